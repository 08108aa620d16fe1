theorem fl_RX11_237 : k_FL RX11 237 8 7 := ⟨(RX10, TX10, 10), "WheelCity$World", rfl, by decide, iu_8, Or.inr (List.mem_of_getElem? (i := 275) (by decide +kernel)), Or.inl rfl⟩
theorem fl_RX11_240 : k_FL RX11 240 8 8 := ⟨(RX10, TX10, 10), "WheelCity$World", rfl, by decide, iu_8, Or.inr (List.mem_of_getElem? (i := 277) (by decide +kernel)), Or.inl rfl⟩
theorem fl_RX11_248 : k_FL RX11 248 8 9 := ⟨(RX10, TX10, 10), "WheelCity$World", rfl, by decide, iu_8, Or.inr (List.mem_of_getElem? (i := 280) (by decide +kernel)), Or.inl rfl⟩
theorem fl_RX11_255 : ∀ t : Int32, k_FL RX11 255 (k_tag t) 0 := fun t => k_tag5 (P := fun n => k_FL RX11 255 n 0) t ⟨(RX2, TX2, 3), "WheelCity$Rule", rfl, by decide, iu_1, Or.inl (List.mem_of_getElem? (i := 791) (by decide +kernel)), Or.inl rfl⟩ ⟨(RX5, TX5, 3), "WheelCity$Rule", rfl, by decide, iu_4, Or.inl (List.mem_of_getElem? (i := 791) (by decide +kernel)), Or.inl rfl⟩ ⟨(RX4, TX4, 3), "WheelCity$Rule", rfl, by decide, iu_3, Or.inl (List.mem_of_getElem? (i := 791) (by decide +kernel)), Or.inl rfl⟩ ⟨(RX1, TX1, 3), "WheelCity$Rule", rfl, by decide, iu_0, Or.inl (List.mem_of_getElem? (i := 791) (by decide +kernel)), Or.inl rfl⟩ ⟨(RX8, TX8, 3), "WheelCity$Rule", rfl, by decide, iu_6, Or.inl (List.mem_of_getElem? (i := 791) (by decide +kernel)), Or.inl rfl⟩
theorem fl_RX11_257 : ∀ t : Int32, k_FL RX11 257 (k_tag t) 2 := fun t => k_tag5 (P := fun n => k_FL RX11 257 n 2) t ⟨(RX2, TX2, 3), "WheelCity$Rule", rfl, by decide, iu_1, Or.inl (List.mem_of_getElem? (i := 809) (by decide +kernel)), Or.inl rfl⟩ ⟨(RX5, TX5, 3), "WheelCity$Rule", rfl, by decide, iu_4, Or.inl (List.mem_of_getElem? (i := 809) (by decide +kernel)), Or.inl rfl⟩ ⟨(RX4, TX4, 3), "WheelCity$Rule", rfl, by decide, iu_3, Or.inl (List.mem_of_getElem? (i := 809) (by decide +kernel)), Or.inl rfl⟩ ⟨(RX1, TX1, 3), "WheelCity$Rule", rfl, by decide, iu_0, Or.inl (List.mem_of_getElem? (i := 809) (by decide +kernel)), Or.inl rfl⟩ ⟨(RX8, TX8, 3), "WheelCity$Rule", rfl, by decide, iu_6, Or.inl (List.mem_of_getElem? (i := 809) (by decide +kernel)), Or.inl rfl⟩
theorem fl_RX11_260 : ∀ t : Int32, k_FL RX11 260 (k_tag t) 1 := fun t => k_tag5 (P := fun n => k_FL RX11 260 n 1) t ⟨(RX2, TX2, 3), "WheelCity$Rule", rfl, by decide, iu_1, Or.inl (List.mem_of_getElem? (i := 799) (by decide +kernel)), Or.inl rfl⟩ ⟨(RX5, TX5, 3), "WheelCity$Rule", rfl, by decide, iu_4, Or.inl (List.mem_of_getElem? (i := 799) (by decide +kernel)), Or.inl rfl⟩ ⟨(RX4, TX4, 3), "WheelCity$Rule", rfl, by decide, iu_3, Or.inl (List.mem_of_getElem? (i := 799) (by decide +kernel)), Or.inl rfl⟩ ⟨(RX1, TX1, 3), "WheelCity$Rule", rfl, by decide, iu_0, Or.inl (List.mem_of_getElem? (i := 799) (by decide +kernel)), Or.inl rfl⟩ ⟨(RX8, TX8, 3), "WheelCity$Rule", rfl, by decide, iu_6, Or.inl (List.mem_of_getElem? (i := 799) (by decide +kernel)), Or.inl rfl⟩
theorem fl_RX11_308 : k_FL RX11 308 7 2 := ⟨(RX9, TX9, 3), "WheelCity$Trace", rfl, by decide, iu_7, Or.inr (List.mem_of_getElem? (i := 318) (by decide +kernel)), Or.inl rfl⟩
theorem fl_RX11_311 : k_FL RX11 311 7 1 := ⟨(RX9, TX9, 3), "WheelCity$Trace", rfl, by decide, iu_7, Or.inr (List.mem_of_getElem? (i := 315) (by decide +kernel)), Or.inl rfl⟩
theorem fl_RX11_312 : k_FL RX11 312 7 0 := ⟨(RX9, TX9, 3), "WheelCity$Trace", rfl, by decide, iu_7, Or.inr (List.mem_of_getElem? (i := 312) (by decide +kernel)), Or.inl rfl⟩
theorem fl_RX11_33 : k_FL RX11 33 9 5 := ⟨(RX11, TX11, 14), "WheelCity", rfl, by decide, iu_9, Or.inl (List.mem_of_getElem? (i := 332) (by decide +kernel)), Or.inl rfl⟩
theorem fl_RX11_52 : k_FL RX11 52 9 10 := ⟨(RX11, TX11, 14), "WheelCity", rfl, by decide, iu_9, Or.inl (List.mem_of_getElem? (i := 337) (by decide +kernel)), Or.inl rfl⟩
theorem fl_RX11_55 : k_FL RX11 55 9 11 := ⟨(RX11, TX11, 14), "WheelCity", rfl, by decide, iu_9, Or.inl (List.mem_of_getElem? (i := 338) (by decide +kernel)), Or.inl rfl⟩
theorem fl_RX11_58 : k_FL RX11 58 9 12 := ⟨(RX11, TX11, 14), "WheelCity", rfl, by decide, iu_9, Or.inl (List.mem_of_getElem? (i := 339) (by decide +kernel)), Or.inl rfl⟩
theorem fl_RX11_64 : k_FL RX11 64 9 13 := ⟨(RX11, TX11, 14), "WheelCity", rfl, by decide, iu_9, Or.inl (List.mem_of_getElem? (i := 340) (by decide +kernel)), Or.inl rfl⟩
theorem cy_J7_fill_d0a16 : k_cy yJ7_fill_d0a16 cJ7_fill_d0a16 5 none 2 := ⟨List.mem_of_getElem? (i := 935) (by decide +kernel), List.mem_of_getElem? (i := 120) (by decide +kernel), ⟨by decide +kernel, by decide +kernel⟩, by decide +kernel⟩
theorem cy_X10_ruleAt : k_cy yX10_ruleAt cX10_ruleAt 2 (some (.object "WheelCity$Rule")) 1 := ⟨List.mem_of_getElem? (i := 864) (by decide +kernel), List.mem_of_getElem? (i := 109) (by decide +kernel), ⟨by decide +kernel, by decide +kernel⟩, by decide +kernel⟩
theorem cy_X11_isRowPart : k_cy yX11_isRowPart cX11_isRowPart 3 (some .boolean) 2 := ⟨List.mem_of_getElem? (i := 920) (by decide +kernel), List.mem_of_getElem? (i := 107) (by decide +kernel), ⟨by decide +kernel, by decide +kernel⟩, by decide +kernel⟩
theorem cy_X11_narrowed : k_cy yX11_narrowed cX11_narrowed 2 (some .long) 2 := ⟨List.mem_of_getElem? (i := 942) (by decide +kernel), List.mem_of_getElem? (i := 107) (by decide +kernel), ⟨by decide +kernel, by decide +kernel⟩, by decide +kernel⟩
theorem cy_X11_newRule : k_cy yX11_newRule cX11_newRule 3 (some (.object "WheelCity$Rule")) 3 := ⟨List.mem_of_getElem? (i := 780) (by decide +kernel), List.mem_of_getElem? (i := 107) (by decide +kernel), ⟨by decide +kernel, by decide +kernel⟩, by decide +kernel⟩
theorem cy_X11_ruleOn : k_cy yX11_ruleOn cX11_ruleOn 2 (some (.object "WheelCity$Rule")) 1 := ⟨List.mem_of_getElem? (i := 966) (by decide +kernel), List.mem_of_getElem? (i := 107) (by decide +kernel), ⟨by decide +kernel, by decide +kernel⟩, by decide +kernel⟩
theorem cy_X11_shelveRule : k_cy yX11_shelveRule cX11_shelveRule 3 (some .int) 2 := ⟨List.mem_of_getElem? (i := 954) (by decide +kernel), List.mem_of_getElem? (i := 107) (by decide +kernel), ⟨by decide +kernel, by decide +kernel⟩, by decide +kernel⟩
theorem cy_X11_shelveSheet : k_cy yX11_shelveSheet cX11_shelveSheet 3 (some .int) 2 := ⟨List.mem_of_getElem? (i := 958) (by decide +kernel), List.mem_of_getElem? (i := 107) (by decide +kernel), ⟨by decide +kernel, by decide +kernel⟩, by decide +kernel⟩
theorem cy_X1_init : k_cy yX1_init cX1_init 4 none 3 := ⟨List.mem_of_getElem? (i := 841) (by decide +kernel), List.mem_of_getElem? (i := 125) (by decide +kernel), ⟨by decide +kernel, by decide +kernel⟩, by decide +kernel⟩
theorem cy_X2_init : k_cy yX2_init cX2_init 4 none 3 := ⟨List.mem_of_getElem? (i := 785) (by decide +kernel), List.mem_of_getElem? (i := 122) (by decide +kernel), ⟨by decide +kernel, by decide +kernel⟩, by decide +kernel⟩
theorem cy_X8_init : k_cy yX8_init cX8_init 4 none 3 := ⟨List.mem_of_getElem? (i := 851) (by decide +kernel), List.mem_of_getElem? (i := 126) (by decide +kernel), ⟨by decide +kernel, by decide +kernel⟩, by decide +kernel⟩
theorem cy_X9_clear : k_cy yX9_clear cX9_clear 1 none 0 := ⟨List.mem_of_getElem? (i := 988) (by decide +kernel), List.mem_of_getElem? (i := 111) (by decide +kernel), ⟨by decide +kernel, by decide +kernel⟩, by decide +kernel⟩
theorem lk_RX11_244 : k_lk RX11 244 yX11_newRule := Or.inl (List.mem_of_getElem? (i := 778) (by decide +kernel))
theorem lk_RX11_251 : k_lk RX11 251 yX10_ruleAt := Or.inr (List.mem_of_getElem? (i := 861) (by decide +kernel))
theorem lk_RX11_267 : k_lk RX11 267 yX11_isRowPart := Or.inl (List.mem_of_getElem? (i := 917) (by decide +kernel))
theorem lk_RX11_270 : k_lk RX11 270 yJ7_fill_d0a16 := Or.inl (List.mem_of_getElem? (i := 933) (by decide +kernel))
theorem lk_RX11_276 : k_lk RX11 276 yX11_narrowed := Or.inl (List.mem_of_getElem? (i := 940) (by decide +kernel))
theorem lk_RX11_280 : k_lk RX11 280 yX11_shelveRule := Or.inl (List.mem_of_getElem? (i := 951) (by decide +kernel))
theorem lk_RX11_283 : k_lk RX11 283 yX11_shelveSheet := Or.inl (List.mem_of_getElem? (i := 955) (by decide +kernel))
theorem lk_RX11_286 : k_lk RX11 286 yX11_ruleOn := Or.inl (List.mem_of_getElem? (i := 963) (by decide +kernel))
theorem lk_RX11_292 : k_lk RX11 292 yX9_clear := Or.inr (List.mem_of_getElem? (i := 985) (by decide +kernel))
theorem lk_RX11_317 : k_lk RX11 317 yX2_init := Or.inl (List.mem_of_getElem? (i := 783) (by decide +kernel))
theorem lk_RX11_322 : k_lk RX11 322 yX5_init := Or.inl (List.mem_of_getElem? (i := 819) (by decide +kernel))
theorem lk_RX11_325 : k_lk RX11 325 yX4_init := Or.inl (List.mem_of_getElem? (i := 829) (by decide +kernel))
theorem lk_RX11_328 : k_lk RX11 328 yX1_init := Or.inl (List.mem_of_getElem? (i := 839) (by decide +kernel))
theorem lk_RX11_331 : k_lk RX11 331 yX8_init := Or.inl (List.mem_of_getElem? (i := 849) (by decide +kernel))
theorem im_X10_ruleAt : Cond.instanceMethod yX10_ruleAt ∈ lw_tbl := List.mem_of_getElem? (i := 863) (by decide +kernel)
theorem im_X11_isRowPart : Cond.instanceMethod yX11_isRowPart ∈ lw_tbl := List.mem_of_getElem? (i := 919) (by decide +kernel)
theorem im_X11_ruleOn : Cond.instanceMethod yX11_ruleOn ∈ lw_tbl := List.mem_of_getElem? (i := 965) (by decide +kernel)
theorem im_X11_shelveRule : Cond.instanceMethod yX11_shelveRule ∈ lw_tbl := List.mem_of_getElem? (i := 953) (by decide +kernel)
theorem im_X11_shelveSheet : Cond.instanceMethod yX11_shelveSheet ∈ lw_tbl := List.mem_of_getElem? (i := 957) (by decide +kernel)
theorem im_X1_init : Cond.instanceMethod yX1_init ∈ lw_tbl := List.mem_of_getElem? (i := 840) (by decide +kernel)
theorem im_X2_init : Cond.instanceMethod yX2_init ∈ lw_tbl := List.mem_of_getElem? (i := 784) (by decide +kernel)
theorem im_X8_init : Cond.instanceMethod yX8_init ∈ lw_tbl := List.mem_of_getElem? (i := 850) (by decide +kernel)
theorem im_X9_clear : Cond.instanceMethod yX9_clear ∈ lw_tbl := List.mem_of_getElem? (i := 987) (by decide +kernel)
theorem se_X10_ruleAt : Cond.selects yX10_ruleAt.cls yX10_ruleAt yX10_ruleAt ∈ lw_tbl := List.mem_of_getElem? (i := 44) (by decide +kernel)
theorem se_X11_isRowPart : Cond.selects yX11_isRowPart.cls yX11_isRowPart yX11_isRowPart ∈ lw_tbl := List.mem_of_getElem? (i := 48) (by decide +kernel)
theorem se_X11_ruleOn : Cond.selects yX11_ruleOn.cls yX11_ruleOn yX11_ruleOn ∈ lw_tbl := List.mem_of_getElem? (i := 51) (by decide +kernel)
theorem se_X11_shelveRule : Cond.selects yX11_shelveRule.cls yX11_shelveRule yX11_shelveRule ∈ lw_tbl := List.mem_of_getElem? (i := 49) (by decide +kernel)
theorem se_X11_shelveSheet : Cond.selects yX11_shelveSheet.cls yX11_shelveSheet yX11_shelveSheet ∈ lw_tbl := List.mem_of_getElem? (i := 50) (by decide +kernel)
theorem se_X9_clear : Cond.selects yX9_clear.cls yX9_clear yX9_clear ∈ lw_tbl := List.mem_of_getElem? (i := 52) (by decide +kernel)
theorem stt_J7_fill_d0a16 : Cond.static yJ7_fill_d0a16 ∈ lw_tbl := List.mem_of_getElem? (i := 934) (by decide +kernel)
theorem stt_X11_narrowed : Cond.static yX11_narrowed ∈ lw_tbl := List.mem_of_getElem? (i := 941) (by decide +kernel)
theorem stt_X11_newRule : Cond.static yX11_newRule ∈ lw_tbl := List.mem_of_getElem? (i := 779) (by decide +kernel)
theorem vl_RX11_263 : Cond.methodLink RX11 263 ⟨"WheelCity$Rule", "choose", "(LWheelCity$World;)I"⟩ ∈ lw_tbl := List.mem_of_getElem? (i := 869) (by decide +kernel)
theorem vl_RX11_289 : Cond.methodLink RX11 289 ⟨"WheelCity$Rule", "isOf", "(I)Z"⟩ ∈ lw_tbl := List.mem_of_getElem? (i := 967) (by decide +kernel)
theorem vl_RX11_295 : Cond.methodLink RX11 295 ⟨"WheelCity$Rule", "rolls", "(ILWheelCity$Trace;)I"⟩ ∈ lw_tbl := List.mem_of_getElem? (i := 989) (by decide +kernel)
theorem vl_RX11_299 : Cond.methodLink RX11 299 ⟨"WheelCity$Rule", "eats", "(ILWheelCity$Trace;)I"⟩ ∈ lw_tbl := List.mem_of_getElem? (i := 1011) (by decide +kernel)
theorem vl_RX11_302 : Cond.methodLink RX11 302 ⟨"WheelCity$Rule", "shares", "(ILWheelCity$Trace;)I"⟩ ∈ lw_tbl := List.mem_of_getElem? (i := 1030) (by decide +kernel)
theorem vl_RX11_305 : Cond.methodLink RX11 305 ⟨"WheelCity$Rule", "tells", "(ILWheelCity$Trace;)I"⟩ ∈ lw_tbl := List.mem_of_getElem? (i := 1051) (by decide +kernel)
theorem nw_RX11_315 : Cond.classLink RX11 315 RX2 ∈ lw_tbl ∧ Cond.instantiable RX2 3 ∈ lw_tbl ∧ Cond.initialized RX2 ∈ lw_tbl := ⟨List.mem_of_getElem? (i := 781) (by decide +kernel), List.mem_of_getElem? (i := 782) (by decide +kernel), List.mem_of_getElem? (i := 122) (by decide +kernel)⟩
theorem nw_RX11_320 : Cond.classLink RX11 320 RX5 ∈ lw_tbl ∧ Cond.instantiable RX5 3 ∈ lw_tbl ∧ Cond.initialized RX5 ∈ lw_tbl := ⟨List.mem_of_getElem? (i := 817) (by decide +kernel), List.mem_of_getElem? (i := 818) (by decide +kernel), List.mem_of_getElem? (i := 123) (by decide +kernel)⟩
theorem nw_RX11_323 : Cond.classLink RX11 323 RX4 ∈ lw_tbl ∧ Cond.instantiable RX4 3 ∈ lw_tbl ∧ Cond.initialized RX4 ∈ lw_tbl := ⟨List.mem_of_getElem? (i := 827) (by decide +kernel), List.mem_of_getElem? (i := 828) (by decide +kernel), List.mem_of_getElem? (i := 124) (by decide +kernel)⟩
theorem nw_RX11_326 : Cond.classLink RX11 326 RX1 ∈ lw_tbl ∧ Cond.instantiable RX1 3 ∈ lw_tbl ∧ Cond.initialized RX1 ∈ lw_tbl := ⟨List.mem_of_getElem? (i := 837) (by decide +kernel), List.mem_of_getElem? (i := 838) (by decide +kernel), List.mem_of_getElem? (i := 125) (by decide +kernel)⟩
theorem nw_RX11_329 : Cond.classLink RX11 329 RX8 ∈ lw_tbl ∧ Cond.instantiable RX8 3 ∈ lw_tbl ∧ Cond.initialized RX8 ∈ lw_tbl := ⟨List.mem_of_getElem? (i := 847) (by decide +kernel), List.mem_of_getElem? (i := 848) (by decide +kernel), List.mem_of_getElem? (i := 126) (by decide +kernel)⟩
theorem ct_RX11_236 : Cond.constant RX11 236 65535 ∈ lw_tbl := List.mem_of_getElem? (i := 777) (by decide +kernel)
theorem dt_X11_newRule_0 : k_dec cX11_newRule [(0, .iload_n 0, 1), (1, .tableswitch 75 1 4 #[31, 42, 53, 64], 31), (32, .new 315, 3), (35, .dup, 1), (36, .iload_n 0, 1), (37, .iload_n 1, 1), (38, .iload_n 2, 1), (39, .invokespecial 317, 3), (42, .areturn, 1), (43, .new 320, 3), (46, .dup, 1), (47, .iload_n 0, 1), (48, .iload_n 1, 1), (49, .iload_n 2, 1), (50, .invokespecial 322, 3), (53, .areturn, 1), (54, .new 323, 3), (57, .dup, 1), (58, .iload_n 0, 1), (59, .iload_n 1, 1), (60, .iload_n 2, 1), (61, .invokespecial 325, 3), (64, .areturn, 1), (65, .new 326, 3), (68, .dup, 1), (69, .iload_n 0, 1), (70, .iload_n 1, 1), (71, .iload_n 2, 1), (72, .invokespecial 328, 3), (75, .areturn, 1), (76, .new 329, 3), (79, .dup, 1), (80, .iload_n 0, 1), (81, .iload_n 1, 1), (82, .iload_n 2, 1), (83, .invokespecial 331, 3), (86, .areturn, 1)] = true := by decide +kernel
def f_X11_newRule (p1 : Int32) (p2 : Int32) (p3 : Int32) (M : k_M) : Option (Option Nat × k_M) := tsw p1 1 4 (fun i_ => if i_ = 0 then nwR M 1 (fun q1 M2 => bd (f_X2_init q1 p1 p2 p3 M2) (fun r3 M4 => some (some q1, M4))) else if i_ = 1 then nwR M 2 (fun q5 M6 => bd (f_X5_init q5 p1 p2 p3 M6) (fun r7 M8 => some (some q5, M8))) else if i_ = 2 then nwR M 3 (fun q9 M10 => bd (f_X4_init q9 p1 p2 p3 M10) (fun r11 M12 => some (some q9, M12))) else if i_ = 3 then nwR M 4 (fun q13 M14 => bd (f_X1_init q13 p1 p2 p3 M14) (fun r15 M16 => some (some q13, M16))) else nwR M 5 (fun q17 M18 => bd (f_X8_init q17 p1 p2 p3 M18) (fun r19 M20 => some (some q17, M20)))) (nwR M 5 (fun q17 M18 => bd (f_X8_init q17 p1 p2 p3 M18) (fun r19 M20 => some (some q17, M20))))
theorem m_X11_newRule_0 {Z : k_Z} {G : k_G} (C : k_C Z G RX11 cX11_newRule (true, 3, 4, 1, 3) (some (.object "WheelCity$Rule")) "newRule") (p1 : Int32) (p2 : Int32) (p3 : Int32) (M : k_M) : Sm Z G (emR Z) (true, 3, 4, 1, 3) (0, 0) 0 [(0, Value.int p1), (1, Value.int p2), (2, Value.int p3)] [] M (f_X11_newRule p1 p2 p3 M) := by
  show Sm Z G (emR Z) _ _ _ _ _ _ (tsw p1 1 4 (fun i_ => if i_ = 0 then nwR M 1 (fun q1 M2 => bd (f_X2_init q1 p1 p2 p3 M2) (fun r3 M4 => some (some q1, M4))) else if i_ = 1 then nwR M 2 (fun q5 M6 => bd (f_X5_init q5 p1 p2 p3 M6) (fun r7 M8 => some (some q5, M8))) else if i_ = 2 then nwR M 3 (fun q9 M10 => bd (f_X4_init q9 p1 p2 p3 M10) (fun r11 M12 => some (some q9, M12))) else if i_ = 3 then nwR M 4 (fun q13 M14 => bd (f_X1_init q13 p1 p2 p3 M14) (fun r15 M16 => some (some q13, M16))) else nwR M 5 (fun q17 M18 => bd (f_X8_init q17 p1 p2 p3 M18) (fun r19 M20 => some (some q17, M20)))) (nwR M 5 (fun q17 M18 => bd (f_X8_init q17 p1 p2 p3 M18) (fun r19 M20 => some (some q17, M20)))))
  refine x_iload_n C (k_dg dt_X11_newRule_0 0 0 (.iload_n 0) 1 rfl) 0 rfl ?_
  refine x_tsw C (n := 4) (tgt := 76) (k_dg dt_X11_newRule_0 1 1 (.tableswitch 75 1 4 #[31, 42, 53, 64]) 31 rfl) (by decide) (by decide) (fun i_ => [32, 43, 54, 65].getD i_ 0) (by decide) (fun i_ hi_ _ => ?_) ?_
  · match i_, hi_ with
    | 0, _ =>
      show Sm Z G (emR Z) _ _ 32 _ _ _ (nwR M 1 (fun q1 M2 => bd (f_X2_init q1 p1 p2 p3 M2) (fun r3 M4 => some (some q1, M4))))
      refine x_newR C (t := 1) (r := (RX2, TX2, 3)) (ty := tyX2) rfl rfl rfl tyX2_ok (by decide) iu_1 nw_RX11_315.1 nw_RX11_315.2.1 nw_RX11_315.2.2 (by decide) (by decide) (k_dg dt_X11_newRule_0 2 32 (.new 315) 3 rfl) (fun q1 M2 => ?_)
      refine x_dup C (k_dg dt_X11_newRule_0 3 35 (.dup) 1 rfl) rfl ?_
      refine x_iload_n C (k_dg dt_X11_newRule_0 4 36 (.iload_n 0) 1 rfl) 0 rfl ?_
      refine x_iload_n C (k_dg dt_X11_newRule_0 5 37 (.iload_n 1) 1 rfl) 1 rfl ?_
      refine x_iload_n C (k_dg dt_X11_newRule_0 6 38 (.iload_n 2) 1 rfl) 2 rfl ?_
      refine x_callI C (b := k_h Z + q1) (vs := [Value.int p1, Value.int p2, Value.int p3]) (rest := [k_ra Z q1]) (c_X2_init C.2.2.2.2.2.2.2.2.2 G.2.1 q1 p1 p2 p3 M2) cy_X2_init lk_RX11_317 im_X2_init rfl (by decide) (by decide) (by decide) (by decide) rfl rfl (Nat.le_of_ble_eq_true rfl) (k_dg dt_X11_newRule_0 7 39 (.invokespecial 317) 3 rfl) (fun r3 M4 => ?_)
      show Sm Z G _ _ _ _ [(0, Value.int p1), (1, Value.int p2), (2, Value.int p3)] [k_ra Z q1] _ _
      exact x_aret (v := some q1) C (by decide) (by decide) (k_dg dt_X11_newRule_0 8 42 (.areturn) 1 rfl)
    | 1, _ =>
      show Sm Z G (emR Z) _ _ 43 _ _ _ (nwR M 2 (fun q5 M6 => bd (f_X5_init q5 p1 p2 p3 M6) (fun r7 M8 => some (some q5, M8))))
      refine x_newR C (t := 2) (r := (RX5, TX5, 3)) (ty := tyX5) rfl rfl rfl tyX5_ok (by decide) iu_4 nw_RX11_320.1 nw_RX11_320.2.1 nw_RX11_320.2.2 (by decide) (by decide) (k_dg dt_X11_newRule_0 9 43 (.new 320) 3 rfl) (fun q5 M6 => ?_)
      refine x_dup C (k_dg dt_X11_newRule_0 10 46 (.dup) 1 rfl) rfl ?_
      refine x_iload_n C (k_dg dt_X11_newRule_0 11 47 (.iload_n 0) 1 rfl) 0 rfl ?_
      refine x_iload_n C (k_dg dt_X11_newRule_0 12 48 (.iload_n 1) 1 rfl) 1 rfl ?_
      refine x_iload_n C (k_dg dt_X11_newRule_0 13 49 (.iload_n 2) 1 rfl) 2 rfl ?_
      refine x_callI C (b := k_h Z + q5) (vs := [Value.int p1, Value.int p2, Value.int p3]) (rest := [k_ra Z q5]) (c_X5_init C.2.2.2.2.2.2.2.2.2 G.2.1 q5 p1 p2 p3 M6) cy_X5_init lk_RX11_322 im_X5_init rfl (by decide) (by decide) (by decide) (by decide) rfl rfl (Nat.le_of_ble_eq_true rfl) (k_dg dt_X11_newRule_0 14 50 (.invokespecial 322) 3 rfl) (fun r7 M8 => ?_)
      show Sm Z G _ _ _ _ [(0, Value.int p1), (1, Value.int p2), (2, Value.int p3)] [k_ra Z q5] _ _
      exact x_aret (v := some q5) C (by decide) (by decide) (k_dg dt_X11_newRule_0 15 53 (.areturn) 1 rfl)
    | 2, _ =>
      show Sm Z G (emR Z) _ _ 54 _ _ _ (nwR M 3 (fun q9 M10 => bd (f_X4_init q9 p1 p2 p3 M10) (fun r11 M12 => some (some q9, M12))))
      refine x_newR C (t := 3) (r := (RX4, TX4, 3)) (ty := tyX4) rfl rfl rfl tyX4_ok (by decide) iu_3 nw_RX11_323.1 nw_RX11_323.2.1 nw_RX11_323.2.2 (by decide) (by decide) (k_dg dt_X11_newRule_0 16 54 (.new 323) 3 rfl) (fun q9 M10 => ?_)
      refine x_dup C (k_dg dt_X11_newRule_0 17 57 (.dup) 1 rfl) rfl ?_
      refine x_iload_n C (k_dg dt_X11_newRule_0 18 58 (.iload_n 0) 1 rfl) 0 rfl ?_
      refine x_iload_n C (k_dg dt_X11_newRule_0 19 59 (.iload_n 1) 1 rfl) 1 rfl ?_
      refine x_iload_n C (k_dg dt_X11_newRule_0 20 60 (.iload_n 2) 1 rfl) 2 rfl ?_
      refine x_callI C (b := k_h Z + q9) (vs := [Value.int p1, Value.int p2, Value.int p3]) (rest := [k_ra Z q9]) (c_X4_init C.2.2.2.2.2.2.2.2.2 G.2.1 q9 p1 p2 p3 M10) cy_X4_init lk_RX11_325 im_X4_init rfl (by decide) (by decide) (by decide) (by decide) rfl rfl (Nat.le_of_ble_eq_true rfl) (k_dg dt_X11_newRule_0 21 61 (.invokespecial 325) 3 rfl) (fun r11 M12 => ?_)
      show Sm Z G _ _ _ _ [(0, Value.int p1), (1, Value.int p2), (2, Value.int p3)] [k_ra Z q9] _ _
      exact x_aret (v := some q9) C (by decide) (by decide) (k_dg dt_X11_newRule_0 22 64 (.areturn) 1 rfl)
    | 3, _ =>
      show Sm Z G (emR Z) _ _ 65 _ _ _ (nwR M 4 (fun q13 M14 => bd (f_X1_init q13 p1 p2 p3 M14) (fun r15 M16 => some (some q13, M16))))
      refine x_newR C (t := 4) (r := (RX1, TX1, 3)) (ty := tyX1) rfl rfl rfl tyX1_ok (by decide) iu_0 nw_RX11_326.1 nw_RX11_326.2.1 nw_RX11_326.2.2 (by decide) (by decide) (k_dg dt_X11_newRule_0 23 65 (.new 326) 3 rfl) (fun q13 M14 => ?_)
      refine x_dup C (k_dg dt_X11_newRule_0 24 68 (.dup) 1 rfl) rfl ?_
      refine x_iload_n C (k_dg dt_X11_newRule_0 25 69 (.iload_n 0) 1 rfl) 0 rfl ?_
      refine x_iload_n C (k_dg dt_X11_newRule_0 26 70 (.iload_n 1) 1 rfl) 1 rfl ?_
      refine x_iload_n C (k_dg dt_X11_newRule_0 27 71 (.iload_n 2) 1 rfl) 2 rfl ?_
      refine x_callI C (b := k_h Z + q13) (vs := [Value.int p1, Value.int p2, Value.int p3]) (rest := [k_ra Z q13]) (c_X1_init C.2.2.2.2.2.2.2.2.2 G.2.1 q13 p1 p2 p3 M14) cy_X1_init lk_RX11_328 im_X1_init rfl (by decide) (by decide) (by decide) (by decide) rfl rfl (Nat.le_of_ble_eq_true rfl) (k_dg dt_X11_newRule_0 28 72 (.invokespecial 328) 3 rfl) (fun r15 M16 => ?_)
      show Sm Z G _ _ _ _ [(0, Value.int p1), (1, Value.int p2), (2, Value.int p3)] [k_ra Z q13] _ _
      exact x_aret (v := some q13) C (by decide) (by decide) (k_dg dt_X11_newRule_0 29 75 (.areturn) 1 rfl)
    | k + 4, h => exact absurd h (by omega)
  · refine x_newR C (t := 5) (r := (RX8, TX8, 3)) (ty := tyX8) rfl rfl rfl tyX8_ok (by decide) iu_6 nw_RX11_329.1 nw_RX11_329.2.1 nw_RX11_329.2.2 (by decide) (by decide) (k_dg dt_X11_newRule_0 30 76 (.new 329) 3 rfl) (fun q17 M18 => ?_)
    refine x_dup C (k_dg dt_X11_newRule_0 31 79 (.dup) 1 rfl) rfl ?_
    refine x_iload_n C (k_dg dt_X11_newRule_0 32 80 (.iload_n 0) 1 rfl) 0 rfl ?_
    refine x_iload_n C (k_dg dt_X11_newRule_0 33 81 (.iload_n 1) 1 rfl) 1 rfl ?_
    refine x_iload_n C (k_dg dt_X11_newRule_0 34 82 (.iload_n 2) 1 rfl) 2 rfl ?_
    refine x_callI C (b := k_h Z + q17) (vs := [Value.int p1, Value.int p2, Value.int p3]) (rest := [k_ra Z q17]) (c_X8_init C.2.2.2.2.2.2.2.2.2 G.2.1 q17 p1 p2 p3 M18) cy_X8_init lk_RX11_331 im_X8_init rfl (by decide) (by decide) (by decide) (by decide) rfl rfl (Nat.le_of_ble_eq_true rfl) (k_dg dt_X11_newRule_0 35 83 (.invokespecial 331) 3 rfl) (fun r19 M20 => ?_)
    show Sm Z G _ _ _ _ [(0, Value.int p1), (1, Value.int p2), (2, Value.int p3)] [k_ra Z q17] _ _
    exact x_aret (v := some q17) C (by decide) (by decide) (k_dg dt_X11_newRule_0 36 86 (.areturn) 1 rfl)
theorem c_X11_newRule {Z : k_Z} (hg : k_Gd Z) (l : Launch) (p1 : Int32) (p2 : Int32) (p3 : Int32) (M : k_M) : Con true Z l yX11_newRule cX11_newRule 3 (some (.object "WheelCity$Rule")) 4 1 3 (emR Z) [Value.int p1, Value.int p2, Value.int p3] M (f_X11_newRule p1 p2 p3 M) := k_con hg (by decide) (Nat.le_of_ble_eq_true rfl) (fun G hl C => m_X11_newRule_0 C p1 p2 p3 M)
theorem dt_X11_rule_0 : k_dec cX11_rule [(0, .iload_n 1, 1), (1, .iconst 1, 1), (2, .iconst 5, 1), (3, .invokestatic 95, 3), (6, .ifCond .eq 13, 3), (9, .iload_n 2, 1), (10, .iconst 0, 1), (11, .ldc 236, 2), (13, .invokestatic 95, 3), (16, .ifCond .ne 5, 3), (19, .iconst (-1), 1), (20, .ireturn, 1), (21, .aload_n 0, 1), (22, .getfield 19, 3), (25, .getfield 237, 3), (28, .iconst 4, 1), (29, .if_icmp .lt 6, 3), (32, .bipush (-2), 2), (34, .ireturn, 1), (35, .aload_n 0, 1), (36, .getfield 19, 3), (39, .getfield 237, 3), (42, .istore_n 3, 1), (43, .aload_n 0, 1), (44, .getfield 19, 3), (47, .getfield 240, 3), (50, .iload_n 3, 1), (51, .iload_n 1, 1), (52, .iload_n 3, 1), (53, .iload_n 2, 1), (54, .invokestatic 244, 3), (57, .aastore, 1), (58, .aload_n 0, 1), (59, .getfield 19, 3), (62, .getfield 248, 3), (65, .iload_n 3, 1), (66, .iconst 0, 1), (67, .iastore, 1), (68, .aload_n 0, 1), (69, .getfield 19, 3)] = true := by decide +kernel
theorem dt_X11_rule_1 : k_dec cX11_rule [(72, .dup, 1), (73, .getfield 237, 3), (76, .iconst 1, 1), (77, .iadd, 1), (78, .putfield 237, 3), (81, .iload_n 3, 1), (82, .ireturn, 1)] = true := by decide +kernel
def f_X11_rule (p1 : Int32) (p2 : Int32) (M : k_M) : Option (Int32 × k_M) := bd (f_X11_within p1 1 5 M) (fun r1 M2 => if r1 = 0 then some (-1, M2) else bd (f_X11_within p2 0 65535 M2) (fun r3 M4 => if r3 = 0 then some (-1, M4) else if (M4.1 3 7) < 4 then bN (M4.1 3 7) (fun v5 => bd (f_X11_newRule p1 v5 p2 M4) (fun r6 M7 => wrR M7 21 4 v5 r6 (fun M8 => wrI M8 22 4 v5 0 (fun M9 => bN (sI M9 3 7 ((M9.1 3 7) + 1)) (fun M10 => some (v5, M10)))))) else some (-2, M4)))
theorem m_X11_rule_0 {Z : k_Z} {G : k_G} (C : k_C Z G RX11 cX11_rule (true, 4, 5, 1, 3) (some .int) "rule") (p1 : Int32) (p2 : Int32) (M : k_M) : Sm Z G emI (true, 4, 5, 1, 3) (0, 0) 0 [(0, k_ra Z 0), (1, Value.int p1), (2, Value.int p2)] [] M (f_X11_rule p1 p2 M) := by
  show Sm Z G emI _ _ _ _ _ _ (bd (f_X11_within p1 1 5 M) (fun r1 M2 => if r1 = 0 then some (-1, M2) else bd (f_X11_within p2 0 65535 M2) (fun r3 M4 => if r3 = 0 then some (-1, M4) else if (M4.1 3 7) < 4 then bN (M4.1 3 7) (fun v5 => bd (f_X11_newRule p1 v5 p2 M4) (fun r6 M7 => wrR M7 21 4 v5 r6 (fun M8 => wrI M8 22 4 v5 0 (fun M9 => bN (sI M9 3 7 ((M9.1 3 7) + 1)) (fun M10 => some (v5, M10)))))) else some (-2, M4))))
  refine x_iload_n C (k_dg dt_X11_rule_0 0 0 (.iload_n 1) 1 rfl) 1 rfl ?_
  refine x_iconst C (v := 1) (k_dg dt_X11_rule_0 1 1 (.iconst 1) 1 rfl) (by decide) ?_
  refine x_iconst C (v := 5) (k_dg dt_X11_rule_0 2 2 (.iconst 5) 1 rfl) (by decide) ?_
  refine x_callS C (vs := [Value.int p1, Value.int 1, Value.int 5]) (rest := []) (c_X11_within C.2.2.2.2.2.2.2.2.2 G.2.1 p1 1 5 M) cy_X11_within lk_RX11_95 stt_X11_within (by decide) (by decide) (by decide) (by decide) rfl rfl (Nat.le_of_ble_eq_true rfl) (k_dg dt_X11_rule_0 3 3 (.invokestatic 95) 3 rfl) (fun r1 M2 => ?_)
  show Sm Z G _ _ _ _ [(0, k_ra Z 0), (1, Value.int p1), (2, Value.int p2)] [Value.int r1] _ _
  refine x_if_eq C (tgt := 19) (k_dg dt_X11_rule_0 4 6 (.ifCond .eq 13) 3 rfl) (by decide) (fun _ => ?_) (fun _ => ?_)
  · refine x_iconst C (v := -1) (k_dg dt_X11_rule_0 10 19 (.iconst (-1)) 1 rfl) (by decide) ?_
    exact x_iret C (by decide) (by decide) (k_dg dt_X11_rule_0 11 20 (.ireturn) 1 rfl)
  · refine x_iload_n C (k_dg dt_X11_rule_0 5 9 (.iload_n 2) 1 rfl) 2 rfl ?_
    refine x_iconst C (v := 0) (k_dg dt_X11_rule_0 6 10 (.iconst 0) 1 rfl) (by decide) ?_
    refine x_ldc C (v := 65535) ct_RX11_236 (k_dg dt_X11_rule_0 7 11 (.ldc 236) 2 rfl) ?_
    refine x_callS C (vs := [Value.int p2, Value.int 0, Value.int 65535]) (rest := []) (c_X11_within C.2.2.2.2.2.2.2.2.2 G.2.1 p2 0 65535 M2) cy_X11_within lk_RX11_95 stt_X11_within (by decide) (by decide) (by decide) (by decide) rfl rfl (Nat.le_of_ble_eq_true rfl) (k_dg dt_X11_rule_0 8 13 (.invokestatic 95) 3 rfl) (fun r3 M4 => ?_)
    show Sm Z G _ _ _ _ [(0, k_ra Z 0), (1, Value.int p1), (2, Value.int p2)] [Value.int r3] _ _
    refine x_if_ne C (tgt := 21) (k_dg dt_X11_rule_0 9 16 (.ifCond .ne 5) 3 rfl) (by decide) (fun _ => ?_) (fun _ => ?_)
    · refine x_iconst C (v := -1) (k_dg dt_X11_rule_0 10 19 (.iconst (-1)) 1 rfl) (by decide) ?_
      exact x_iret C (by decide) (by decide) (k_dg dt_X11_rule_0 11 20 (.ireturn) 1 rfl)
    · refine x_aload_n C (k_dg dt_X11_rule_0 12 21 (.aload_n 0) 1 rfl) 0 rfl ?_
      refine x_getR C (a := 0) (j := 1) 3 rfl rfl (by decide) fl_RX11_19 rfl rfl rfl (k_dg dt_X11_rule_0 13 22 (.getfield 19) 3 rfl) ?_
      refine x_getI C (a := 3) (j := 7) rfl rfl (by decide) fl_RX11_237 rfl (k_dg dt_X11_rule_0 14 25 (.getfield 237) 3 rfl) ?_
      refine x_iconst C (v := 4) (k_dg dt_X11_rule_0 15 28 (.iconst 4) 1 rfl) (by decide) ?_
      refine x_icmp_lt C (tgt := 35) (k_dg dt_X11_rule_0 16 29 (.if_icmp .lt 6) 3 rfl) (by decide) (fun _ => ?_) (fun _ => ?_)
      · refine x_aload_n C (k_dg dt_X11_rule_0 19 35 (.aload_n 0) 1 rfl) 0 rfl ?_
        refine x_getR C (a := 0) (j := 1) 3 rfl rfl (by decide) fl_RX11_19 rfl rfl rfl (k_dg dt_X11_rule_0 20 36 (.getfield 19) 3 rfl) ?_
        refine x_getI C (a := 3) (j := 7) rfl rfl (by decide) fl_RX11_237 rfl (k_dg dt_X11_rule_0 21 39 (.getfield 237) 3 rfl) ?_
        refine x_nm (w := Value.int) (fun v5 _ => ?_)
        refine x_istore_n C (lv' := [(3, Value.int v5), (0, k_ra Z 0), (1, Value.int p1), (2, Value.int p2)]) (k_dg dt_X11_rule_0 22 42 (.istore_n 3) 1 rfl) (by decide) rfl ?_
        refine x_aload_n C (k_dg dt_X11_rule_0 23 43 (.aload_n 0) 1 rfl) 1 rfl ?_
        refine x_getR C (a := 0) (j := 1) 3 rfl rfl (by decide) fl_RX11_19 rfl rfl rfl (k_dg dt_X11_rule_0 24 44 (.getfield 19) 3 rfl) ?_
        refine x_getR C (a := 3) (j := 8) 21 rfl rfl (by decide) fl_RX11_240 rfl rfl rfl (k_dg dt_X11_rule_0 25 47 (.getfield 240) 3 rfl) ?_
        refine x_iload_n C (k_dg dt_X11_rule_0 26 50 (.iload_n 3) 1 rfl) 0 rfl ?_
        refine x_iload_n C (k_dg dt_X11_rule_0 27 51 (.iload_n 1) 1 rfl) 2 rfl ?_
        refine x_iload_n C (k_dg dt_X11_rule_0 28 52 (.iload_n 3) 1 rfl) 0 rfl ?_
        refine x_iload_n C (k_dg dt_X11_rule_0 29 53 (.iload_n 2) 1 rfl) 3 rfl ?_
        refine x_callS C (vs := [Value.int p1, Value.int v5, Value.int p2]) (rest := [Value.int v5, k_ra Z 21]) (c_X11_newRule C.2.2.2.2.2.2.2.2.2 G.2.1 p1 v5 p2 M4) cy_X11_newRule lk_RX11_244 stt_X11_newRule (by decide) (by decide) (by decide) (by decide) rfl rfl (Nat.le_of_ble_eq_true rfl) (k_dg dt_X11_rule_0 30 54 (.invokestatic 244) 3 rfl) (fun r6 M7 => ?_)
        show Sm Z G _ _ _ _ [(3, Value.int v5), (0, k_ra Z 0), (1, Value.int p1), (2, Value.int p2)] [k_rn Z r6, Value.int v5, k_ra Z 21] _ _
        refine x_aast C (a := 21) (n := 4) (q := r6) rfl rfl (k_dg dt_X11_rule_0 31 57 (.aastore) 1 rfl) (fun M8 => ?_)
        refine x_aload_n C (k_dg dt_X11_rule_0 32 58 (.aload_n 0) 1 rfl) 1 rfl ?_
        refine x_getR C (a := 0) (j := 1) 3 rfl rfl (by decide) fl_RX11_19 rfl rfl rfl (k_dg dt_X11_rule_0 33 59 (.getfield 19) 3 rfl) ?_
        refine x_getR C (a := 3) (j := 9) 22 rfl rfl (by decide) fl_RX11_248 rfl rfl rfl (k_dg dt_X11_rule_0 34 62 (.getfield 248) 3 rfl) ?_
        refine x_iload_n C (k_dg dt_X11_rule_0 35 65 (.iload_n 3) 1 rfl) 0 rfl ?_
        refine x_iconst C (v := 0) (k_dg dt_X11_rule_0 36 66 (.iconst 0) 1 rfl) (by decide) ?_
        refine x_iast C (a := 22) (n := 4) rfl rfl (k_dg dt_X11_rule_0 37 67 (.iastore) 1 rfl) (fun M9 => ?_)
        refine x_aload_n C (k_dg dt_X11_rule_0 38 68 (.aload_n 0) 1 rfl) 1 rfl ?_
        refine x_getR C (a := 0) (j := 1) 3 rfl rfl (by decide) fl_RX11_19 rfl rfl rfl (k_dg dt_X11_rule_0 39 69 (.getfield 19) 3 rfl) ?_
        refine x_dup C (k_dg dt_X11_rule_1 0 72 (.dup) 1 rfl) rfl ?_
        refine x_getI C (a := 3) (j := 7) rfl rfl (by decide) fl_RX11_237 rfl (k_dg dt_X11_rule_1 1 73 (.getfield 237) 3 rfl) ?_
        refine x_iconst C (v := 1) (k_dg dt_X11_rule_1 2 76 (.iconst 1) 1 rfl) (by decide) ?_
        refine x_iadd C (k_dg dt_X11_rule_1 3 77 (.iadd) 1 rfl) ?_
        refine x_putI C (a := 3) (j := 7) rfl rfl (by decide) fl_RX11_237 rfl pt_8_7 tb_8 rfl rfl (k_dg dt_X11_rule_1 4 78 (.putfield 237) 3 rfl) (fun M10 => ?_)
        refine x_iload_n C (k_dg dt_X11_rule_1 5 81 (.iload_n 3) 1 rfl) 0 rfl ?_
        exact x_iret C (by decide) (by decide) (k_dg dt_X11_rule_1 6 82 (.ireturn) 1 rfl)
      · refine x_bipush C (v := -2) (k_dg dt_X11_rule_0 17 32 (.bipush (-2)) 2 rfl) (by decide) ?_
        exact x_iret C (by decide) (by decide) (k_dg dt_X11_rule_0 18 34 (.ireturn) 1 rfl)
theorem c_X11_rule {Z : k_Z} (hg : k_Gd Z) (l : Launch) (p1 : Int32) (p2 : Int32) (M : k_M) : Con true Z l yX11_rule cX11_rule 4 (some .int) 5 1 3 emI [k_ra Z 0, Value.int p1, Value.int p2] M (f_X11_rule p1 p2 M) := k_con hg (by decide) (Nat.le_of_ble_eq_true rfl) (fun G hl C => m_X11_rule_0 C p1 p2 M)
theorem dt_X11_ruleOf_0 : k_dec cX11_ruleOf [(0, .aload_n 0, 1), (1, .getfield 19, 3), (4, .iload_n 1, 1), (5, .invokevirtual 251, 3), (8, .astore_n 3, 1), (9, .aload_n 3, 1), (10, .ifnonnull 5, 3), (13, .iconst (-1), 1), (14, .ireturn, 1), (15, .iload_n 2, 1), (16, .tableswitch 51 0 2 #[28, 33, 38], 28), (44, .aload_n 3, 1), (45, .getfield 255, 3), (48, .ireturn, 1), (49, .aload_n 3, 1), (50, .getfield 257, 3), (53, .ireturn, 1), (54, .aload_n 0, 1), (55, .getfield 19, 3), (58, .getfield 248, 3), (61, .aload_n 3, 1), (62, .getfield 260, 3), (65, .iaload, 1), (66, .ireturn, 1), (67, .iconst (-1), 1), (68, .ireturn, 1)] = true := by decide +kernel
def f_X11_ruleOf (p1 : Int32) (p2 : Int32) (M : k_M) : Option (Int32 × k_M) := bd (f_X10_ruleAt 3 p1 M) (fun r1 M2 => nul r1 (some (-1, M2)) (fun a3 => tsw p2 0 3 (fun i_ => if i_ = 0 then gRl M2 a3 0 (fun v4 => some (v4, M2)) else if i_ = 1 then gRl M2 a3 2 (fun v5 => some (v5, M2)) else if i_ = 2 then gRl M2 a3 1 (fun v6 => rdI M2 22 4 v6 (fun v7 => some (v7, M2))) else some (-1, M2)) (some (-1, M2))))
theorem m_X11_ruleOf_0 {Z : k_Z} {G : k_G} (C : k_C Z G RX11 cX11_ruleOf (true, 4, 2, 0, 0) (some .int) "ruleOf") (p1 : Int32) (p2 : Int32) (M : k_M) : Sm Z G emI (true, 4, 2, 0, 0) (0, 0) 0 [(0, k_ra Z 0), (1, Value.int p1), (2, Value.int p2)] [] M (f_X11_ruleOf p1 p2 M) := by
  show Sm Z G emI _ _ _ _ _ _ (bd (f_X10_ruleAt 3 p1 M) (fun r1 M2 => nul r1 (some (-1, M2)) (fun a3 => tsw p2 0 3 (fun i_ => if i_ = 0 then gRl M2 a3 0 (fun v4 => some (v4, M2)) else if i_ = 1 then gRl M2 a3 2 (fun v5 => some (v5, M2)) else if i_ = 2 then gRl M2 a3 1 (fun v6 => rdI M2 22 4 v6 (fun v7 => some (v7, M2))) else some (-1, M2)) (some (-1, M2)))))
  refine x_aload_n C (k_dg dt_X11_ruleOf_0 0 0 (.aload_n 0) 1 rfl) 0 rfl ?_
  refine x_getR C (a := 0) (j := 1) 3 rfl rfl (by decide) fl_RX11_19 rfl rfl rfl (k_dg dt_X11_ruleOf_0 1 1 (.getfield 19) 3 rfl) ?_
  refine x_iload_n C (k_dg dt_X11_ruleOf_0 2 4 (.iload_n 1) 1 rfl) 1 rfl ?_
  refine x_callV C (a := 3) (kd := 8) (vs := [Value.int p1]) (rest := []) rfl rfl (by decide) (fun r hr => by cases hr; rfl) (c_X10_ruleAt C.2.2.2.2.2.2.2.2.2 G.2.1 3 p1 M isW3) cy_X10_ruleAt lk_RX11_251 im_X10_ruleAt se_X10_ruleAt (by decide) (by decide) (by decide) (by decide) rfl rfl (Nat.le_of_ble_eq_true rfl) (k_dg dt_X11_ruleOf_0 3 5 (.invokevirtual 251) 3 rfl) (fun r1 M2 => ?_)
  show Sm Z G _ _ _ _ [(0, k_ra Z 0), (1, Value.int p1), (2, Value.int p2)] [k_rn Z r1] _ _
  refine x_astore_q C (lv' := [(3, k_rn Z r1), (0, k_ra Z 0), (1, Value.int p1), (2, Value.int p2)]) (k_dg dt_X11_ruleOf_0 4 8 (.astore_n 3) 1 rfl) (by decide) rfl ?_
  refine x_aload_q C (k_dg dt_X11_ruleOf_0 5 9 (.aload_n 3) 1 rfl) 0 rfl ?_
  refine x_ifnonnull C (tgt := 15) (k_dg dt_X11_ruleOf_0 6 10 (.ifnonnull 5) 3 rfl) (by decide) (fun hq => ?_) (fun a3 hq => ?_)
  · skip
    refine x_iconst C (v := -1) (k_dg dt_X11_ruleOf_0 7 13 (.iconst (-1)) 1 rfl) (by decide) ?_
    exact x_iret C (by decide) (by decide) (k_dg dt_X11_ruleOf_0 8 14 (.ireturn) 1 rfl)
  · subst hq
    refine x_iload_n C (k_dg dt_X11_ruleOf_0 9 15 (.iload_n 2) 1 rfl) 3 rfl ?_
    refine x_tsw C (n := 3) (tgt := 67) (k_dg dt_X11_ruleOf_0 10 16 (.tableswitch 51 0 2 #[28, 33, 38]) 28 rfl) (by decide) (by decide) (fun i_ => [44, 49, 54].getD i_ 0) (by decide) (fun i_ hi_ _ => ?_) ?_
    · match i_, hi_ with
      | 0, _ =>
        show Sm Z G emI _ _ 44 _ _ _ (gRl M2 a3 0 (fun v4 => some (v4, M2)))
        refine x_aload_n C (k_dg dt_X11_ruleOf_0 11 44 (.aload_n 3) 1 rfl) 0 rfl ?_
        refine x_getRl C (a := a3) (j := 0) (by decide) fl_RX11_255 (k_dg dt_X11_ruleOf_0 12 45 (.getfield 255) 3 rfl) (fun v4 => ?_)
        exact x_iret C (by decide) (by decide) (k_dg dt_X11_ruleOf_0 13 48 (.ireturn) 1 rfl)
      | 1, _ =>
        show Sm Z G emI _ _ 49 _ _ _ (gRl M2 a3 2 (fun v5 => some (v5, M2)))
        refine x_aload_n C (k_dg dt_X11_ruleOf_0 14 49 (.aload_n 3) 1 rfl) 0 rfl ?_
        refine x_getRl C (a := a3) (j := 2) (by decide) fl_RX11_257 (k_dg dt_X11_ruleOf_0 15 50 (.getfield 257) 3 rfl) (fun v5 => ?_)
        exact x_iret C (by decide) (by decide) (k_dg dt_X11_ruleOf_0 16 53 (.ireturn) 1 rfl)
      | 2, _ =>
        show Sm Z G emI _ _ 54 _ _ _ (gRl M2 a3 1 (fun v6 => rdI M2 22 4 v6 (fun v7 => some (v7, M2))))
        refine x_aload_n C (k_dg dt_X11_ruleOf_0 17 54 (.aload_n 0) 1 rfl) 1 rfl ?_
        refine x_getR C (a := 0) (j := 1) 3 rfl rfl (by decide) fl_RX11_19 rfl rfl rfl (k_dg dt_X11_ruleOf_0 18 55 (.getfield 19) 3 rfl) ?_
        refine x_getR C (a := 3) (j := 9) 22 rfl rfl (by decide) fl_RX11_248 rfl rfl rfl (k_dg dt_X11_ruleOf_0 19 58 (.getfield 248) 3 rfl) ?_
        refine x_aload_n C (k_dg dt_X11_ruleOf_0 20 61 (.aload_n 3) 1 rfl) 0 rfl ?_
        refine x_getRl C (a := a3) (j := 1) (by decide) fl_RX11_260 (k_dg dt_X11_ruleOf_0 21 62 (.getfield 260) 3 rfl) (fun v6 => ?_)
        refine x_iald C (a := 22) (n := 4) rfl rfl (k_dg dt_X11_ruleOf_0 22 65 (.iaload) 1 rfl) (fun v7 => ?_)
        exact x_iret C (by decide) (by decide) (k_dg dt_X11_ruleOf_0 23 66 (.ireturn) 1 rfl)
      | k + 3, h => exact absurd h (by omega)
    · refine x_iconst C (v := -1) (k_dg dt_X11_ruleOf_0 24 67 (.iconst (-1)) 1 rfl) (by decide) ?_
      exact x_iret C (by decide) (by decide) (k_dg dt_X11_ruleOf_0 25 68 (.ireturn) 1 rfl)
theorem c_X11_ruleOf {Z : k_Z} (hg : k_Gd Z) (l : Launch) (p1 : Int32) (p2 : Int32) (M : k_M) : Con true Z l yX11_ruleOf cX11_ruleOf 4 (some .int) 2 0 0 emI [k_ra Z 0, Value.int p1, Value.int p2] M (f_X11_ruleOf p1 p2 M) := k_con hg (by decide) (Nat.le_of_ble_eq_true rfl) (fun G hl C => m_X11_ruleOf_0 C p1 p2 M)
theorem dt_X11_next_0 : k_dec cX11_next [(0, .aload_n 0, 1), (1, .getfield 19, 3), (4, .iload_n 1, 1), (5, .invokevirtual 251, 3), (8, .astore_n 2, 1), (9, .aload_n 2, 1), (10, .ifnonnull 5, 3), (13, .iconst (-1), 1), (14, .ireturn, 1), (15, .aload_n 0, 1), (16, .getfield 19, 3), (19, .getfield 89, 3), (22, .ifCond .eq 14, 3), (25, .aload_n 2, 1), (26, .aload_n 0, 1), (27, .getfield 19, 3), (30, .invokevirtual 263, 3), (33, .goto 5, 3), (36, .bipush (-4), 2), (38, .ireturn, 1)] = true := by decide +kernel
def f_X11_next (p1 : Int32) (M : k_M) : Option (Int32 × k_M) := bd (f_X10_ruleAt 3 p1 M) (fun r1 M2 => nul r1 (some (-1, M2)) (fun a3 => if (M2.1 3 3) = 0 then some (-4, M2) else bd (vd_Rule_choose a3 3 M2) (fun r4 M5 => some (r4, M5))))
theorem m_X11_next_0 {Z : k_Z} {G : k_G} (C : k_C Z G RX11 cX11_next (true, 3, 23, 0, 0) (some .int) "next") (p1 : Int32) (M : k_M) : Sm Z G emI (true, 3, 23, 0, 0) (0, 0) 0 [(0, k_ra Z 0), (1, Value.int p1)] [] M (f_X11_next p1 M) := by
  show Sm Z G emI _ _ _ _ _ _ (bd (f_X10_ruleAt 3 p1 M) (fun r1 M2 => nul r1 (some (-1, M2)) (fun a3 => if (M2.1 3 3) = 0 then some (-4, M2) else bd (vd_Rule_choose a3 3 M2) (fun r4 M5 => some (r4, M5)))))
  refine x_aload_n C (k_dg dt_X11_next_0 0 0 (.aload_n 0) 1 rfl) 0 rfl ?_
  refine x_getR C (a := 0) (j := 1) 3 rfl rfl (by decide) fl_RX11_19 rfl rfl rfl (k_dg dt_X11_next_0 1 1 (.getfield 19) 3 rfl) ?_
  refine x_iload_n C (k_dg dt_X11_next_0 2 4 (.iload_n 1) 1 rfl) 1 rfl ?_
  refine x_callV C (a := 3) (kd := 8) (vs := [Value.int p1]) (rest := []) rfl rfl (by decide) (fun r hr => by cases hr; rfl) (c_X10_ruleAt C.2.2.2.2.2.2.2.2.2 G.2.1 3 p1 M isW3) cy_X10_ruleAt lk_RX11_251 im_X10_ruleAt se_X10_ruleAt (by decide) (by decide) (by decide) (by decide) rfl rfl (Nat.le_of_ble_eq_true rfl) (k_dg dt_X11_next_0 3 5 (.invokevirtual 251) 3 rfl) (fun r1 M2 => ?_)
  show Sm Z G _ _ _ _ [(0, k_ra Z 0), (1, Value.int p1)] [k_rn Z r1] _ _
  refine x_astore_q C (lv' := [(2, k_rn Z r1), (0, k_ra Z 0), (1, Value.int p1)]) (k_dg dt_X11_next_0 4 8 (.astore_n 2) 1 rfl) (by decide) rfl ?_
  refine x_aload_q C (k_dg dt_X11_next_0 5 9 (.aload_n 2) 1 rfl) 0 rfl ?_
  refine x_ifnonnull C (tgt := 15) (k_dg dt_X11_next_0 6 10 (.ifnonnull 5) 3 rfl) (by decide) (fun hq => ?_) (fun a3 hq => ?_)
  · skip
    refine x_iconst C (v := -1) (k_dg dt_X11_next_0 7 13 (.iconst (-1)) 1 rfl) (by decide) ?_
    exact x_iret C (by decide) (by decide) (k_dg dt_X11_next_0 8 14 (.ireturn) 1 rfl)
  · subst hq
    refine x_aload_n C (k_dg dt_X11_next_0 9 15 (.aload_n 0) 1 rfl) 1 rfl ?_
    refine x_getR C (a := 0) (j := 1) 3 rfl rfl (by decide) fl_RX11_19 rfl rfl rfl (k_dg dt_X11_next_0 10 16 (.getfield 19) 3 rfl) ?_
    refine x_getI C (a := 3) (j := 3) rfl rfl (by decide) fl_RX11_89 rfl (k_dg dt_X11_next_0 11 19 (.getfield 89) 3 rfl) ?_
    refine x_if_eq C (tgt := 36) (k_dg dt_X11_next_0 12 22 (.ifCond .eq 14) 3 rfl) (by decide) (fun _ => ?_) (fun _ => ?_)
    · refine x_bipush C (v := -4) (k_dg dt_X11_next_0 18 36 (.bipush (-4)) 2 rfl) (by decide) ?_
      exact x_iret C (by decide) (by decide) (k_dg dt_X11_next_0 19 38 (.ireturn) 1 rfl)
    · refine x_aload_n C (k_dg dt_X11_next_0 13 25 (.aload_n 2) 1 rfl) 0 rfl ?_
      refine x_aload_n C (k_dg dt_X11_next_0 14 26 (.aload_n 0) 1 rfl) 1 rfl ?_
      refine x_getR C (a := 0) (j := 1) 3 rfl rfl (by decide) fl_RX11_19 rfl rfl rfl (k_dg dt_X11_next_0 15 27 (.getfield 19) 3 rfl) ?_
      refine x_vd_Rule_choose C (a := a3) (rest := []) isW3 vl_RX11_263 (by decide) (by decide) (by decide) rfl (Nat.le_of_ble_eq_true rfl) (k_dg dt_X11_next_0 16 30 (.invokevirtual 263) 3 rfl) (fun r4 M5 => ?_)
      show Sm Z G _ _ _ _ [(2, k_ra Z a3), (0, k_ra Z 0), (1, Value.int p1)] [Value.int r4] _ _
      refine x_goto C (tgt := 38) (k_dg dt_X11_next_0 17 33 (.goto 5) 3 rfl) (by decide) ?_
      exact x_iret C (by decide) (by decide) (k_dg dt_X11_next_0 19 38 (.ireturn) 1 rfl)
theorem c_X11_next {Z : k_Z} (hg : k_Gd Z) (l : Launch) (p1 : Int32) (M : k_M) : Con true Z l yX11_next cX11_next 3 (some .int) 23 0 0 emI [k_ra Z 0, Value.int p1] M (f_X11_next p1 M) := k_con hg (by decide) (Nat.le_of_ble_eq_true rfl) (fun G hl C => m_X11_next_0 C p1 M)
theorem dt_X11_follow_0 : k_dec cX11_follow [(0, .aload_n 0, 1), (1, .getfield 19, 3), (4, .iload_n 1, 1), (5, .invokevirtual 251, 3), (8, .astore_n 3, 1), (9, .aload_n 3, 1), (10, .ifnull 13, 3), (13, .iload_n 2, 1), (14, .iconst 0, 1), (15, .bipush 20, 2), (17, .invokestatic 95, 3), (20, .ifCond .ne 5, 3), (23, .iconst (-1), 1), (24, .ireturn, 1), (25, .aload_n 0, 1), (26, .getfield 19, 3), (29, .getfield 89, 3), (32, .ifCond .ne 6, 3), (35, .bipush (-4), 2), (37, .ireturn, 1), (38, .iconst 0, 1), (39, .istore 4, 2), (41, .iload 4, 2), (43, .iload_n 2, 1), (44, .if_icmp .ge 44, 3), (47, .aload_n 0, 1), (48, .getfield 19, 3), (51, .aload_n 3, 1), (52, .aload_n 0, 1), (53, .getfield 19, 3), (56, .invokevirtual 263, 3), (59, .invokevirtual 189, 3), (62, .iconst (-1), 1), (63, .if_icmp .eq 25, 3), (66, .aload_n 0, 1), (67, .getfield 19, 3), (70, .getfield 248, 3), (73, .aload_n 3, 1), (74, .getfield 260, 3), (77, .dup2, 1)] = true := by decide +kernel
theorem dt_X11_follow_1 : k_dec cX11_follow [(78, .iaload, 1), (79, .iconst 1, 1), (80, .iadd, 1), (81, .iastore, 1), (82, .iinc 4 1, 3), (85, .goto (-44), 3), (88, .iload 4, 2), (90, .ireturn, 1)] = true := by decide +kernel
def f_X11_follow_41 : Nat → Int32 → Nat → Int32 → k_M → (Int32 → k_M → Option (Int32 × k_M)) → Option (Int32 × k_M)
  | 0, _, _, _, _, _ => none
  | n + 1, l2, l3, l4, M, kx88 => if l2 ≤ l4 then kx88 l4 M else bd (vd_Rule_choose l3 3 M) (fun r1 M2 => bd (f_X10_attempt 3 r1 M2) (fun r3 M4 => if r3 = (-1) then kx88 l4 M4 else gRl M4 l3 1 (fun v5 => rdI M4 22 4 v5 (fun v6 => wrI M4 22 4 v5 (v6 + 1) (fun M7 => f_X11_follow_41 n l2 l3 (l4 + 1) M7 kx88)))))
theorem m_X11_follow_41 {Z : k_Z} {G : k_G} (C : k_C Z G RX11 cX11_follow (true, 5, 23, 0, 0) (some .int) "follow") (kx88 : Int32 → k_M → Option (Int32 × k_M)) (Hx88 : ∀ (l4 : Int32) (M : k_M), Sm Z G emI (true, 5, 23, 0, 0) (0, 0) 88 [(4, Value.int l4)] [] M (kx88 l4 M)) : ∀ (n : Nat) (l2 : Int32) (l3 : Nat) (l4 : Int32) (M : k_M), Sm Z G emI (true, 5, 23, 0, 0) (0, 0) 41 [(0, k_ra Z 0), (2, Value.int l2), (3, k_ra Z l3), (4, Value.int l4)] [] M (f_X11_follow_41 n l2 l3 l4 M kx88)
  | 0, _, _, _, _ => x_none
  | n + 1, l2, l3, l4, M => by
    have ih := m_X11_follow_41 C kx88 Hx88 n
    show Sm Z G emI _ _ _ _ _ _ (if l2 ≤ l4 then kx88 l4 M else bd (vd_Rule_choose l3 3 M) (fun r1 M2 => bd (f_X10_attempt 3 r1 M2) (fun r3 M4 => if r3 = (-1) then kx88 l4 M4 else gRl M4 l3 1 (fun v5 => rdI M4 22 4 v5 (fun v6 => wrI M4 22 4 v5 (v6 + 1) (fun M7 => f_X11_follow_41 n l2 l3 (l4 + 1) M7 kx88))))))
    refine x_iload C (k_dg dt_X11_follow_0 22 41 (.iload 4) 2 rfl) 3 rfl ?_
    refine x_iload_n C (k_dg dt_X11_follow_0 23 43 (.iload_n 2) 1 rfl) 1 rfl ?_
    refine x_icmp_ge C (tgt := 88) (k_dg dt_X11_follow_0 24 44 (.if_icmp .ge 44) 3 rfl) (by decide) (fun _ => ?_) (fun _ => ?_)
    · refine x_lv [3] rfl ?_
      exact Hx88 l4 M
    · refine x_aload_n C (k_dg dt_X11_follow_0 25 47 (.aload_n 0) 1 rfl) 0 rfl ?_
      refine x_getR C (a := 0) (j := 1) 3 rfl rfl (by decide) fl_RX11_19 rfl rfl rfl (k_dg dt_X11_follow_0 26 48 (.getfield 19) 3 rfl) ?_
      refine x_aload_n C (k_dg dt_X11_follow_0 27 51 (.aload_n 3) 1 rfl) 2 rfl ?_
      refine x_aload_n C (k_dg dt_X11_follow_0 28 52 (.aload_n 0) 1 rfl) 0 rfl ?_
      refine x_getR C (a := 0) (j := 1) 3 rfl rfl (by decide) fl_RX11_19 rfl rfl rfl (k_dg dt_X11_follow_0 29 53 (.getfield 19) 3 rfl) ?_
      refine x_vd_Rule_choose C (a := l3) (rest := [k_ra Z 3]) isW3 vl_RX11_263 (by decide) (by decide) (by decide) rfl (Nat.le_of_ble_eq_true rfl) (k_dg dt_X11_follow_0 30 56 (.invokevirtual 263) 3 rfl) (fun r1 M2 => ?_)
      show Sm Z G _ _ _ _ [(0, k_ra Z 0), (2, Value.int l2), (3, k_ra Z l3), (4, Value.int l4)] [Value.int r1, k_ra Z 3] _ _
      refine x_callV C (a := 3) (kd := 8) (vs := [Value.int r1]) (rest := []) rfl rfl (by decide) (fun r hr => by cases hr; rfl) (c_X10_attempt C.2.2.2.2.2.2.2.2.2 G.2.1 3 r1 M2 isW3) cy_X10_attempt lk_RX11_189 im_X10_attempt se_X10_attempt (by decide) (by decide) (by decide) (by decide) rfl rfl (Nat.le_of_ble_eq_true rfl) (k_dg dt_X11_follow_0 31 59 (.invokevirtual 189) 3 rfl) (fun r3 M4 => ?_)
      show Sm Z G _ _ _ _ [(0, k_ra Z 0), (2, Value.int l2), (3, k_ra Z l3), (4, Value.int l4)] [Value.int r3] _ _
      refine x_iconst C (v := -1) (k_dg dt_X11_follow_0 32 62 (.iconst (-1)) 1 rfl) (by decide) ?_
      refine x_icmp_eq C (tgt := 88) (k_dg dt_X11_follow_0 33 63 (.if_icmp .eq 25) 3 rfl) (by decide) (fun _ => ?_) (fun _ => ?_)
      · refine x_lv [3] rfl ?_
        exact Hx88 l4 M4
      · refine x_aload_n C (k_dg dt_X11_follow_0 34 66 (.aload_n 0) 1 rfl) 0 rfl ?_
        refine x_getR C (a := 0) (j := 1) 3 rfl rfl (by decide) fl_RX11_19 rfl rfl rfl (k_dg dt_X11_follow_0 35 67 (.getfield 19) 3 rfl) ?_
        refine x_getR C (a := 3) (j := 9) 22 rfl rfl (by decide) fl_RX11_248 rfl rfl rfl (k_dg dt_X11_follow_0 36 70 (.getfield 248) 3 rfl) ?_
        refine x_aload_n C (k_dg dt_X11_follow_0 37 73 (.aload_n 3) 1 rfl) 2 rfl ?_
        refine x_getRl C (a := l3) (j := 1) (by decide) fl_RX11_260 (k_dg dt_X11_follow_0 38 74 (.getfield 260) 3 rfl) (fun v5 => ?_)
        refine x_dup2 C (k_dg dt_X11_follow_0 39 77 (.dup2) 1 rfl) rfl rfl ?_
        refine x_iald C (a := 22) (n := 4) rfl rfl (k_dg dt_X11_follow_1 0 78 (.iaload) 1 rfl) (fun v6 => ?_)
        refine x_iconst C (v := 1) (k_dg dt_X11_follow_1 1 79 (.iconst 1) 1 rfl) (by decide) ?_
        refine x_iadd C (k_dg dt_X11_follow_1 2 80 (.iadd) 1 rfl) ?_
        refine x_iast C (a := 22) (n := 4) rfl rfl (k_dg dt_X11_follow_1 3 81 (.iastore) 1 rfl) (fun M7 => ?_)
        refine x_iinc C (v := 1) (lv' := [(4, Value.int (l4 + 1)), (0, k_ra Z 0), (2, Value.int l2), (3, k_ra Z l3)]) (k_dg dt_X11_follow_1 4 82 (.iinc 4 1) 3 rfl) 3 rfl (by decide) (by decide) rfl ?_
        refine x_goto C (tgt := 41) (k_dg dt_X11_follow_1 5 85 (.goto (-44)) 3 rfl) (by decide) ?_
        refine x_lv [1, 2, 3, 0] rfl ?_
        exact ih l2 l3 (l4 + 1) M7
def f_X11_follow_88 (l4 : Int32) (M : k_M) : Option (Int32 × k_M) := some (l4, M)
theorem m_X11_follow_88 {Z : k_Z} {G : k_G} (C : k_C Z G RX11 cX11_follow (true, 5, 23, 0, 0) (some .int) "follow") (l4 : Int32) (M : k_M) : Sm Z G emI (true, 5, 23, 0, 0) (0, 0) 88 [(4, Value.int l4)] [] M (f_X11_follow_88 l4 M) := by
  show Sm Z G emI _ _ _ _ _ _ (some (l4, M))
  refine x_iload C (k_dg dt_X11_follow_1 6 88 (.iload 4) 2 rfl) 0 rfl ?_
  exact x_iret C (by decide) (by decide) (k_dg dt_X11_follow_1 7 90 (.ireturn) 1 rfl)
def f_X11_follow (p1 : Int32) (p2 : Int32) (M : k_M) : Option (Int32 × k_M) := bd (f_X10_ruleAt 3 p1 M) (fun r1 M2 => nul r1 (some (-1, M2)) (fun a3 => bd (f_X11_within p2 0 20 M2) (fun r4 M5 => if r4 = 0 then some (-1, M5) else if (M5.1 3 3) = 0 then some (-4, M5) else f_X11_follow_41 k_fu p2 a3 0 M5 (fun l4_ M_ => f_X11_follow_88 l4_ M_))))
theorem m_X11_follow_0 {Z : k_Z} {G : k_G} (C : k_C Z G RX11 cX11_follow (true, 5, 23, 0, 0) (some .int) "follow") (p1 : Int32) (p2 : Int32) (M : k_M) : Sm Z G emI (true, 5, 23, 0, 0) (0, 0) 0 [(0, k_ra Z 0), (1, Value.int p1), (2, Value.int p2)] [] M (f_X11_follow p1 p2 M) := by
  show Sm Z G emI _ _ _ _ _ _ (bd (f_X10_ruleAt 3 p1 M) (fun r1 M2 => nul r1 (some (-1, M2)) (fun a3 => bd (f_X11_within p2 0 20 M2) (fun r4 M5 => if r4 = 0 then some (-1, M5) else if (M5.1 3 3) = 0 then some (-4, M5) else f_X11_follow_41 k_fu p2 a3 0 M5 (fun l4_ M_ => f_X11_follow_88 l4_ M_)))))
  refine x_aload_n C (k_dg dt_X11_follow_0 0 0 (.aload_n 0) 1 rfl) 0 rfl ?_
  refine x_getR C (a := 0) (j := 1) 3 rfl rfl (by decide) fl_RX11_19 rfl rfl rfl (k_dg dt_X11_follow_0 1 1 (.getfield 19) 3 rfl) ?_
  refine x_iload_n C (k_dg dt_X11_follow_0 2 4 (.iload_n 1) 1 rfl) 1 rfl ?_
  refine x_callV C (a := 3) (kd := 8) (vs := [Value.int p1]) (rest := []) rfl rfl (by decide) (fun r hr => by cases hr; rfl) (c_X10_ruleAt C.2.2.2.2.2.2.2.2.2 G.2.1 3 p1 M isW3) cy_X10_ruleAt lk_RX11_251 im_X10_ruleAt se_X10_ruleAt (by decide) (by decide) (by decide) (by decide) rfl rfl (Nat.le_of_ble_eq_true rfl) (k_dg dt_X11_follow_0 3 5 (.invokevirtual 251) 3 rfl) (fun r1 M2 => ?_)
  show Sm Z G _ _ _ _ [(0, k_ra Z 0), (1, Value.int p1), (2, Value.int p2)] [k_rn Z r1] _ _
  refine x_astore_q C (lv' := [(3, k_rn Z r1), (0, k_ra Z 0), (1, Value.int p1), (2, Value.int p2)]) (k_dg dt_X11_follow_0 4 8 (.astore_n 3) 1 rfl) (by decide) rfl ?_
  refine x_aload_q C (k_dg dt_X11_follow_0 5 9 (.aload_n 3) 1 rfl) 0 rfl ?_
  refine x_ifnull C (tgt := 23) (k_dg dt_X11_follow_0 6 10 (.ifnull 13) 3 rfl) (by decide) (fun hq => ?_) (fun a3 hq => ?_)
  · skip
    refine x_iconst C (v := -1) (k_dg dt_X11_follow_0 12 23 (.iconst (-1)) 1 rfl) (by decide) ?_
    exact x_iret C (by decide) (by decide) (k_dg dt_X11_follow_0 13 24 (.ireturn) 1 rfl)
  · subst hq
    refine x_iload_n C (k_dg dt_X11_follow_0 7 13 (.iload_n 2) 1 rfl) 3 rfl ?_
    refine x_iconst C (v := 0) (k_dg dt_X11_follow_0 8 14 (.iconst 0) 1 rfl) (by decide) ?_
    refine x_bipush C (v := 20) (k_dg dt_X11_follow_0 9 15 (.bipush 20) 2 rfl) (by decide) ?_
    refine x_callS C (vs := [Value.int p2, Value.int 0, Value.int 20]) (rest := []) (c_X11_within C.2.2.2.2.2.2.2.2.2 G.2.1 p2 0 20 M2) cy_X11_within lk_RX11_95 stt_X11_within (by decide) (by decide) (by decide) (by decide) rfl rfl (Nat.le_of_ble_eq_true rfl) (k_dg dt_X11_follow_0 10 17 (.invokestatic 95) 3 rfl) (fun r4 M5 => ?_)
    show Sm Z G _ _ _ _ [(3, k_ra Z a3), (0, k_ra Z 0), (1, Value.int p1), (2, Value.int p2)] [Value.int r4] _ _
    refine x_if_ne C (tgt := 25) (k_dg dt_X11_follow_0 11 20 (.ifCond .ne 5) 3 rfl) (by decide) (fun _ => ?_) (fun _ => ?_)
    · refine x_iconst C (v := -1) (k_dg dt_X11_follow_0 12 23 (.iconst (-1)) 1 rfl) (by decide) ?_
      exact x_iret C (by decide) (by decide) (k_dg dt_X11_follow_0 13 24 (.ireturn) 1 rfl)
    · refine x_aload_n C (k_dg dt_X11_follow_0 14 25 (.aload_n 0) 1 rfl) 1 rfl ?_
      refine x_getR C (a := 0) (j := 1) 3 rfl rfl (by decide) fl_RX11_19 rfl rfl rfl (k_dg dt_X11_follow_0 15 26 (.getfield 19) 3 rfl) ?_
      refine x_getI C (a := 3) (j := 3) rfl rfl (by decide) fl_RX11_89 rfl (k_dg dt_X11_follow_0 16 29 (.getfield 89) 3 rfl) ?_
      refine x_if_ne C (tgt := 38) (k_dg dt_X11_follow_0 17 32 (.ifCond .ne 6) 3 rfl) (by decide) (fun _ => ?_) (fun _ => ?_)
      · refine x_bipush C (v := -4) (k_dg dt_X11_follow_0 18 35 (.bipush (-4)) 2 rfl) (by decide) ?_
        exact x_iret C (by decide) (by decide) (k_dg dt_X11_follow_0 19 37 (.ireturn) 1 rfl)
      · refine x_iconst C (v := 0) (k_dg dt_X11_follow_0 20 38 (.iconst 0) 1 rfl) (by decide) ?_
        refine x_istore C (lv' := [(4, Value.int 0), (3, k_ra Z a3), (0, k_ra Z 0), (1, Value.int p1), (2, Value.int p2)]) (k_dg dt_X11_follow_0 21 39 (.istore 4) 2 rfl) (by decide) rfl ?_
        refine x_lv [2, 4, 1, 0] rfl ?_
        exact m_X11_follow_41 C (fun l4_ M_ => f_X11_follow_88 l4_ M_) (fun l4_ M_ => m_X11_follow_88 C l4_ M_) k_fu p2 a3 0 M5
theorem c_X11_follow {Z : k_Z} (hg : k_Gd Z) (l : Launch) (p1 : Int32) (p2 : Int32) (M : k_M) : Con true Z l yX11_follow cX11_follow 5 (some .int) 23 0 0 emI [k_ra Z 0, Value.int p1, Value.int p2] M (f_X11_follow p1 p2 M) := k_con hg (by decide) (Nat.le_of_ble_eq_true rfl) (fun G hl C => m_X11_follow_0 C p1 p2 M)
theorem dt_X11_prove_0 : k_dec cX11_prove [(0, .iload_n 1, 1), (1, .iconst 0, 1), (2, .bipush 6, 2), (4, .invokestatic 95, 3), (7, .ifCond .ne 5, 3), (10, .iconst (-1), 1), (11, .ireturn, 1), (12, .aload_n 0, 1), (13, .getfield 19, 3), (16, .getfield 89, 3), (19, .ifCond .ne 6, 3), (22, .bipush (-4), 2), (24, .ireturn, 1), (25, .aload_n 0, 1), (26, .getfield 19, 3), (29, .iload_n 1, 1), (30, .invokestatic 207, 3), (33, .ifCond .ne 6, 3), (36, .bipush (-3), 2), (38, .ireturn, 1), (39, .aload_n 0, 1), (40, .getfield 26, 3), (43, .aload_n 0, 1), (44, .getfield 19, 3), (47, .invokevirtual 227, 3), (50, .aload_n 0, 1), (51, .getfield 19, 3), (54, .getfield 172, 3), (57, .iload_n 1, 1), (58, .iadd, 1), (59, .istore_n 2, 1), (60, .aload_n 0, 1), (61, .iconst 0, 1), (62, .putfield 37, 3), (65, .aload_n 0, 1), (66, .getfield 26, 3), (69, .getfield 172, 3), (72, .iload_n 2, 1), (73, .if_icmp .ge 109, 3), (76, .aload_n 0, 1)] = true := by decide +kernel
theorem dt_X11_prove_1 : k_dec cX11_prove [(77, .getfield 37, 3), (80, .bipush 6, 2), (82, .if_icmp .ge 100, 3), (85, .aload_n 0, 1), (86, .getfield 26, 3), (89, .iload_n 2, 1), (90, .aload_n 0, 1), (91, .getfield 26, 3), (94, .getfield 172, 3), (97, .isub, 1), (98, .invokestatic 204, 3), (101, .istore_n 3, 1), (102, .aload_n 0, 1), (103, .getfield 26, 3), (106, .iload_n 3, 1), (107, .invokevirtual 189, 3), (110, .iconst (-1), 1), (111, .if_icmp .ne 6, 3), (114, .goto 68, 3), (117, .aload_n 0, 1), (118, .getfield 33, 3), (121, .aload_n 0, 1), (122, .getfield 37, 3), (125, .iconst 3, 1), (126, .imul, 1), (127, .iload_n 3, 1), (128, .iastore, 1), (129, .aload_n 0, 1), (130, .getfield 33, 3), (133, .aload_n 0, 1), (134, .getfield 37, 3), (137, .iconst 3, 1), (138, .imul, 1), (139, .iconst 1, 1), (140, .iadd, 1), (141, .aload_n 0, 1), (142, .getfield 26, 3), (145, .getfield 169, 3), (148, .iastore, 1), (149, .aload_n 0, 1)] = true := by decide +kernel
theorem dt_X11_prove_2 : k_dec cX11_prove [(150, .getfield 33, 3), (153, .aload_n 0, 1), (154, .getfield 37, 3), (157, .iconst 3, 1), (158, .imul, 1), (159, .iconst 2, 1), (160, .iadd, 1), (161, .aload_n 0, 1), (162, .getfield 26, 3), (165, .invokevirtual 179, 3), (168, .iastore, 1), (169, .aload_n 0, 1), (170, .dup, 1), (171, .getfield 37, 3), (174, .iconst 1, 1), (175, .iadd, 1), (176, .putfield 37, 3), (179, .goto (-114), 3), (182, .aload_n 0, 1), (183, .getfield 37, 3), (186, .ireturn, 1)] = true := by decide +kernel
def f_X11_prove_65 : Nat → Int32 → k_M → (k_M → Option (Int32 × k_M)) → (k_M → Option (Int32 × k_M)) → Option (Int32 × k_M)
  | 0, _, _, _, _ => none
  | n + 1, l2, M, kx114, kx182 => if l2 ≤ (M.1 43 5) then kx182 M else if 6 ≤ (M.1 0 6) then kx182 M else bd (f_X0_firstAct 43 (l2 - (M.1 43 5)) M) (fun r1 M2 => bd (f_X10_attempt 43 r1 M2) (fun r3 M4 => if r3 = (-1) then kx114 M4 else wrI M4 63 18 ((M4.1 0 6) * 3) r1 (fun M5 => wrI M5 63 18 (((M5.1 0 6) * 3) + 1) (M5.1 43 4) (fun M6 => bd (f_X10_worth 43 M6) (fun r7 M8 => wrI M8 63 18 (((M6.1 0 6) * 3) + 2) r7 (fun M9 => bN (sI M9 0 6 ((M9.1 0 6) + 1)) (fun M10 => f_X11_prove_65 n l2 M10 kx114 kx182)))))))
theorem m_X11_prove_65 {Z : k_Z} {G : k_G} (C : k_C Z G RX11 cX11_prove (true, 4, 22, 0, 0) (some .int) "prove") (kx114 : k_M → Option (Int32 × k_M)) (kx182 : k_M → Option (Int32 × k_M)) (Hx114 : ∀ (M : k_M), Sm Z G emI (true, 4, 22, 0, 0) (0, 0) 114 [(0, k_ra Z 0)] [] M (kx114 M)) (Hx182 : ∀ (M : k_M), Sm Z G emI (true, 4, 22, 0, 0) (0, 0) 182 [(0, k_ra Z 0)] [] M (kx182 M)) : ∀ (n : Nat) (l2 : Int32) (M : k_M), Sm Z G emI (true, 4, 22, 0, 0) (0, 0) 65 [(0, k_ra Z 0), (2, Value.int l2)] [] M (f_X11_prove_65 n l2 M kx114 kx182)
  | 0, _, _ => x_none
  | n + 1, l2, M => by
    have ih := m_X11_prove_65 C kx114 kx182 Hx114 Hx182 n
    show Sm Z G emI _ _ _ _ _ _ (if l2 ≤ (M.1 43 5) then kx182 M else if 6 ≤ (M.1 0 6) then kx182 M else bd (f_X0_firstAct 43 (l2 - (M.1 43 5)) M) (fun r1 M2 => bd (f_X10_attempt 43 r1 M2) (fun r3 M4 => if r3 = (-1) then kx114 M4 else wrI M4 63 18 ((M4.1 0 6) * 3) r1 (fun M5 => wrI M5 63 18 (((M5.1 0 6) * 3) + 1) (M5.1 43 4) (fun M6 => bd (f_X10_worth 43 M6) (fun r7 M8 => wrI M8 63 18 (((M6.1 0 6) * 3) + 2) r7 (fun M9 => bN (sI M9 0 6 ((M9.1 0 6) + 1)) (fun M10 => f_X11_prove_65 n l2 M10 kx114 kx182))))))))
    refine x_aload_n C (k_dg dt_X11_prove_0 34 65 (.aload_n 0) 1 rfl) 0 rfl ?_
    refine x_getR C (a := 0) (j := 3) 43 rfl rfl (by decide) fl_RX11_26 rfl rfl rfl (k_dg dt_X11_prove_0 35 66 (.getfield 26) 3 rfl) ?_
    refine x_getI C (a := 43) (j := 5) rfl rfl (by decide) fl_RX11_172 rfl (k_dg dt_X11_prove_0 36 69 (.getfield 172) 3 rfl) ?_
    refine x_iload_n C (k_dg dt_X11_prove_0 37 72 (.iload_n 2) 1 rfl) 1 rfl ?_
    refine x_icmp_ge C (tgt := 182) (k_dg dt_X11_prove_0 38 73 (.if_icmp .ge 109) 3 rfl) (by decide) (fun _ => ?_) (fun _ => ?_)
    · refine x_lv [0] rfl ?_
      exact Hx182 M
    · refine x_aload_n C (k_dg dt_X11_prove_0 39 76 (.aload_n 0) 1 rfl) 0 rfl ?_
      refine x_getI C (a := 0) (j := 6) rfl rfl (by decide) fl_RX11_37 rfl (k_dg dt_X11_prove_1 0 77 (.getfield 37) 3 rfl) ?_
      refine x_bipush C (v := 6) (k_dg dt_X11_prove_1 1 80 (.bipush 6) 2 rfl) (by decide) ?_
      refine x_icmp_ge C (tgt := 182) (k_dg dt_X11_prove_1 2 82 (.if_icmp .ge 100) 3 rfl) (by decide) (fun _ => ?_) (fun _ => ?_)
      · refine x_lv [0] rfl ?_
        exact Hx182 M
      · refine x_aload_n C (k_dg dt_X11_prove_1 3 85 (.aload_n 0) 1 rfl) 0 rfl ?_
        refine x_getR C (a := 0) (j := 3) 43 rfl rfl (by decide) fl_RX11_26 rfl rfl rfl (k_dg dt_X11_prove_1 4 86 (.getfield 26) 3 rfl) ?_
        refine x_iload_n C (k_dg dt_X11_prove_1 5 89 (.iload_n 2) 1 rfl) 1 rfl ?_
        refine x_aload_n C (k_dg dt_X11_prove_1 6 90 (.aload_n 0) 1 rfl) 0 rfl ?_
        refine x_getR C (a := 0) (j := 3) 43 rfl rfl (by decide) fl_RX11_26 rfl rfl rfl (k_dg dt_X11_prove_1 7 91 (.getfield 26) 3 rfl) ?_
        refine x_getI C (a := 43) (j := 5) rfl rfl (by decide) fl_RX11_172 rfl (k_dg dt_X11_prove_1 8 94 (.getfield 172) 3 rfl) ?_
        refine x_isub C (k_dg dt_X11_prove_1 9 97 (.isub) 1 rfl) ?_
        refine x_callS C (vs := [k_ra Z 43, Value.int (l2 - (M.1 43 5))]) (rest := []) (c_X0_firstAct C.2.2.2.2.2.2.2.2.2 G.2.1 43 (l2 - (M.1 43 5)) M isW43) cy_X0_firstAct lk_RX11_204 stt_X0_firstAct (by decide) (by decide) (by decide) (by decide) rfl rfl (Nat.le_of_ble_eq_true rfl) (k_dg dt_X11_prove_1 10 98 (.invokestatic 204) 3 rfl) (fun r1 M2 => ?_)
        show Sm Z G _ _ _ _ [(0, k_ra Z 0), (2, Value.int l2)] [Value.int r1] _ _
        refine x_istore_n C (lv' := [(3, Value.int r1), (0, k_ra Z 0), (2, Value.int l2)]) (k_dg dt_X11_prove_1 11 101 (.istore_n 3) 1 rfl) (by decide) rfl ?_
        refine x_aload_n C (k_dg dt_X11_prove_1 12 102 (.aload_n 0) 1 rfl) 1 rfl ?_
        refine x_getR C (a := 0) (j := 3) 43 rfl rfl (by decide) fl_RX11_26 rfl rfl rfl (k_dg dt_X11_prove_1 13 103 (.getfield 26) 3 rfl) ?_
        refine x_iload_n C (k_dg dt_X11_prove_1 14 106 (.iload_n 3) 1 rfl) 0 rfl ?_
        refine x_callV C (a := 43) (kd := 8) (vs := [Value.int r1]) (rest := []) rfl rfl (by decide) (fun r hr => by cases hr; rfl) (c_X10_attempt C.2.2.2.2.2.2.2.2.2 G.2.1 43 r1 M2 isW43) cy_X10_attempt lk_RX11_189 im_X10_attempt se_X10_attempt (by decide) (by decide) (by decide) (by decide) rfl rfl (Nat.le_of_ble_eq_true rfl) (k_dg dt_X11_prove_1 15 107 (.invokevirtual 189) 3 rfl) (fun r3 M4 => ?_)
        show Sm Z G _ _ _ _ [(3, Value.int r1), (0, k_ra Z 0), (2, Value.int l2)] [Value.int r3] _ _
        refine x_iconst C (v := -1) (k_dg dt_X11_prove_1 16 110 (.iconst (-1)) 1 rfl) (by decide) ?_
        refine x_icmp_ne C (tgt := 117) (k_dg dt_X11_prove_1 17 111 (.if_icmp .ne 6) 3 rfl) (by decide) (fun _ => ?_) (fun _ => ?_)
        · refine x_lv [1] rfl ?_
          exact Hx114 M4
        · refine x_aload_n C (k_dg dt_X11_prove_1 19 117 (.aload_n 0) 1 rfl) 1 rfl ?_
          refine x_getR C (a := 0) (j := 5) 63 rfl rfl (by decide) fl_RX11_33 rfl rfl rfl (k_dg dt_X11_prove_1 20 118 (.getfield 33) 3 rfl) ?_
          refine x_aload_n C (k_dg dt_X11_prove_1 21 121 (.aload_n 0) 1 rfl) 1 rfl ?_
          refine x_getI C (a := 0) (j := 6) rfl rfl (by decide) fl_RX11_37 rfl (k_dg dt_X11_prove_1 22 122 (.getfield 37) 3 rfl) ?_
          refine x_iconst C (v := 3) (k_dg dt_X11_prove_1 23 125 (.iconst 3) 1 rfl) (by decide) ?_
          refine x_imul C (k_dg dt_X11_prove_1 24 126 (.imul) 1 rfl) ?_
          refine x_iload_n C (k_dg dt_X11_prove_1 25 127 (.iload_n 3) 1 rfl) 0 rfl ?_
          refine x_iast C (a := 63) (n := 18) rfl rfl (k_dg dt_X11_prove_1 26 128 (.iastore) 1 rfl) (fun M5 => ?_)
          refine x_aload_n C (k_dg dt_X11_prove_1 27 129 (.aload_n 0) 1 rfl) 1 rfl ?_
          refine x_getR C (a := 0) (j := 5) 63 rfl rfl (by decide) fl_RX11_33 rfl rfl rfl (k_dg dt_X11_prove_1 28 130 (.getfield 33) 3 rfl) ?_
          refine x_aload_n C (k_dg dt_X11_prove_1 29 133 (.aload_n 0) 1 rfl) 1 rfl ?_
          refine x_getI C (a := 0) (j := 6) rfl rfl (by decide) fl_RX11_37 rfl (k_dg dt_X11_prove_1 30 134 (.getfield 37) 3 rfl) ?_
          refine x_iconst C (v := 3) (k_dg dt_X11_prove_1 31 137 (.iconst 3) 1 rfl) (by decide) ?_
          refine x_imul C (k_dg dt_X11_prove_1 32 138 (.imul) 1 rfl) ?_
          refine x_iconst C (v := 1) (k_dg dt_X11_prove_1 33 139 (.iconst 1) 1 rfl) (by decide) ?_
          refine x_iadd C (k_dg dt_X11_prove_1 34 140 (.iadd) 1 rfl) ?_
          refine x_aload_n C (k_dg dt_X11_prove_1 35 141 (.aload_n 0) 1 rfl) 1 rfl ?_
          refine x_getR C (a := 0) (j := 3) 43 rfl rfl (by decide) fl_RX11_26 rfl rfl rfl (k_dg dt_X11_prove_1 36 142 (.getfield 26) 3 rfl) ?_
          refine x_getI C (a := 43) (j := 4) rfl rfl (by decide) fl_RX11_169 rfl (k_dg dt_X11_prove_1 37 145 (.getfield 169) 3 rfl) ?_
          refine x_iast C (a := 63) (n := 18) rfl rfl (k_dg dt_X11_prove_1 38 148 (.iastore) 1 rfl) (fun M6 => ?_)
          refine x_aload_n C (k_dg dt_X11_prove_1 39 149 (.aload_n 0) 1 rfl) 1 rfl ?_
          refine x_getR C (a := 0) (j := 5) 63 rfl rfl (by decide) fl_RX11_33 rfl rfl rfl (k_dg dt_X11_prove_2 0 150 (.getfield 33) 3 rfl) ?_
          refine x_aload_n C (k_dg dt_X11_prove_2 1 153 (.aload_n 0) 1 rfl) 1 rfl ?_
          refine x_getI C (a := 0) (j := 6) rfl rfl (by decide) fl_RX11_37 rfl (k_dg dt_X11_prove_2 2 154 (.getfield 37) 3 rfl) ?_
          refine x_iconst C (v := 3) (k_dg dt_X11_prove_2 3 157 (.iconst 3) 1 rfl) (by decide) ?_
          refine x_imul C (k_dg dt_X11_prove_2 4 158 (.imul) 1 rfl) ?_
          refine x_iconst C (v := 2) (k_dg dt_X11_prove_2 5 159 (.iconst 2) 1 rfl) (by decide) ?_
          refine x_iadd C (k_dg dt_X11_prove_2 6 160 (.iadd) 1 rfl) ?_
          refine x_aload_n C (k_dg dt_X11_prove_2 7 161 (.aload_n 0) 1 rfl) 1 rfl ?_
          refine x_getR C (a := 0) (j := 3) 43 rfl rfl (by decide) fl_RX11_26 rfl rfl rfl (k_dg dt_X11_prove_2 8 162 (.getfield 26) 3 rfl) ?_
          refine x_callV C (a := 43) (kd := 8) (vs := []) (rest := [Value.int (((M6.1 0 6) * 3) + 2), k_ra Z 63]) rfl rfl (by decide) (fun r hr => by cases hr; rfl) (c_X10_worth C.2.2.2.2.2.2.2.2.2 G.2.1 43 M6 isW43) cy_X10_worth lk_RX11_179 im_X10_worth se_X10_worth (by decide) (by decide) (by decide) (by decide) rfl rfl (Nat.le_of_ble_eq_true rfl) (k_dg dt_X11_prove_2 9 165 (.invokevirtual 179) 3 rfl) (fun r7 M8 => ?_)
          show Sm Z G _ _ _ _ [(3, Value.int r1), (0, k_ra Z 0), (2, Value.int l2)] [Value.int r7, Value.int (((M6.1 0 6) * 3) + 2), k_ra Z 63] _ _
          refine x_iast C (a := 63) (n := 18) rfl rfl (k_dg dt_X11_prove_2 10 168 (.iastore) 1 rfl) (fun M9 => ?_)
          refine x_aload_n C (k_dg dt_X11_prove_2 11 169 (.aload_n 0) 1 rfl) 1 rfl ?_
          refine x_dup C (k_dg dt_X11_prove_2 12 170 (.dup) 1 rfl) rfl ?_
          refine x_getI C (a := 0) (j := 6) rfl rfl (by decide) fl_RX11_37 rfl (k_dg dt_X11_prove_2 13 171 (.getfield 37) 3 rfl) ?_
          refine x_iconst C (v := 1) (k_dg dt_X11_prove_2 14 174 (.iconst 1) 1 rfl) (by decide) ?_
          refine x_iadd C (k_dg dt_X11_prove_2 15 175 (.iadd) 1 rfl) ?_
          refine x_putI C (a := 0) (j := 6) rfl rfl (by decide) fl_RX11_37 rfl pt_9_6 tb_9 rfl rfl (k_dg dt_X11_prove_2 16 176 (.putfield 37) 3 rfl) (fun M10 => ?_)
          refine x_goto C (tgt := 65) (k_dg dt_X11_prove_2 17 179 (.goto (-114)) 3 rfl) (by decide) ?_
          refine x_lv [1, 2] rfl ?_
          exact ih l2 M10
def f_X11_prove_182 (M : k_M) : Option (Int32 × k_M) := some (M.1 0 6, M)
theorem m_X11_prove_182 {Z : k_Z} {G : k_G} (C : k_C Z G RX11 cX11_prove (true, 4, 22, 0, 0) (some .int) "prove") (M : k_M) : Sm Z G emI (true, 4, 22, 0, 0) (0, 0) 182 [(0, k_ra Z 0)] [] M (f_X11_prove_182 M) := by
  show Sm Z G emI _ _ _ _ _ _ (some (M.1 0 6, M))
  refine x_aload_n C (k_dg dt_X11_prove_2 18 182 (.aload_n 0) 1 rfl) 0 rfl ?_
  refine x_getI C (a := 0) (j := 6) rfl rfl (by decide) fl_RX11_37 rfl (k_dg dt_X11_prove_2 19 183 (.getfield 37) 3 rfl) ?_
  exact x_iret C (by decide) (by decide) (k_dg dt_X11_prove_2 20 186 (.ireturn) 1 rfl)
def f_X11_prove_114 (M : k_M) : Option (Int32 × k_M) := f_X11_prove_182 M
theorem m_X11_prove_114 {Z : k_Z} {G : k_G} (C : k_C Z G RX11 cX11_prove (true, 4, 22, 0, 0) (some .int) "prove") (M : k_M) : Sm Z G emI (true, 4, 22, 0, 0) (0, 0) 114 [(0, k_ra Z 0)] [] M (f_X11_prove_114 M) := by
  show Sm Z G emI _ _ _ _ _ _ (f_X11_prove_182 M)
  refine x_goto C (tgt := 182) (k_dg dt_X11_prove_1 18 114 (.goto 68) 3 rfl) (by decide) ?_
  exact m_X11_prove_182 C M
def f_X11_prove (p1 : Int32) (M : k_M) : Option (Int32 × k_M) := bd (f_X11_within p1 0 6 M) (fun r1 M2 => if r1 = 0 then some (-1, M2) else if (M2.1 3 3) = 0 then some (-4, M2) else bd (f_X0_lasts 8 3 p1 M2) (fun r3 M4 => if r3 = 0 then some (-3, M4) else bd (f_X10_copyFrom 43 3 M4) (fun r5 M6 => bN ((M6.1 3 5) + p1) (fun v7 => bN (sI M6 0 6 0) (fun M8 => f_X11_prove_65 k_fu v7 M8 (fun M_ => f_X11_prove_114 M_) (fun M_ => f_X11_prove_182 M_))))))
theorem m_X11_prove_0 {Z : k_Z} {G : k_G} (C : k_C Z G RX11 cX11_prove (true, 4, 22, 0, 0) (some .int) "prove") (p1 : Int32) (M : k_M) : Sm Z G emI (true, 4, 22, 0, 0) (0, 0) 0 [(0, k_ra Z 0), (1, Value.int p1)] [] M (f_X11_prove p1 M) := by
  show Sm Z G emI _ _ _ _ _ _ (bd (f_X11_within p1 0 6 M) (fun r1 M2 => if r1 = 0 then some (-1, M2) else if (M2.1 3 3) = 0 then some (-4, M2) else bd (f_X0_lasts 8 3 p1 M2) (fun r3 M4 => if r3 = 0 then some (-3, M4) else bd (f_X10_copyFrom 43 3 M4) (fun r5 M6 => bN ((M6.1 3 5) + p1) (fun v7 => bN (sI M6 0 6 0) (fun M8 => f_X11_prove_65 k_fu v7 M8 (fun M_ => f_X11_prove_114 M_) (fun M_ => f_X11_prove_182 M_)))))))
  refine x_iload_n C (k_dg dt_X11_prove_0 0 0 (.iload_n 1) 1 rfl) 1 rfl ?_
  refine x_iconst C (v := 0) (k_dg dt_X11_prove_0 1 1 (.iconst 0) 1 rfl) (by decide) ?_
  refine x_bipush C (v := 6) (k_dg dt_X11_prove_0 2 2 (.bipush 6) 2 rfl) (by decide) ?_
  refine x_callS C (vs := [Value.int p1, Value.int 0, Value.int 6]) (rest := []) (c_X11_within C.2.2.2.2.2.2.2.2.2 G.2.1 p1 0 6 M) cy_X11_within lk_RX11_95 stt_X11_within (by decide) (by decide) (by decide) (by decide) rfl rfl (Nat.le_of_ble_eq_true rfl) (k_dg dt_X11_prove_0 3 4 (.invokestatic 95) 3 rfl) (fun r1 M2 => ?_)
  show Sm Z G _ _ _ _ [(0, k_ra Z 0), (1, Value.int p1)] [Value.int r1] _ _
  refine x_if_ne C (tgt := 12) (k_dg dt_X11_prove_0 4 7 (.ifCond .ne 5) 3 rfl) (by decide) (fun _ => ?_) (fun _ => ?_)
  · refine x_iconst C (v := -1) (k_dg dt_X11_prove_0 5 10 (.iconst (-1)) 1 rfl) (by decide) ?_
    exact x_iret C (by decide) (by decide) (k_dg dt_X11_prove_0 6 11 (.ireturn) 1 rfl)
  · refine x_aload_n C (k_dg dt_X11_prove_0 7 12 (.aload_n 0) 1 rfl) 0 rfl ?_
    refine x_getR C (a := 0) (j := 1) 3 rfl rfl (by decide) fl_RX11_19 rfl rfl rfl (k_dg dt_X11_prove_0 8 13 (.getfield 19) 3 rfl) ?_
    refine x_getI C (a := 3) (j := 3) rfl rfl (by decide) fl_RX11_89 rfl (k_dg dt_X11_prove_0 9 16 (.getfield 89) 3 rfl) ?_
    refine x_if_ne C (tgt := 25) (k_dg dt_X11_prove_0 10 19 (.ifCond .ne 6) 3 rfl) (by decide) (fun _ => ?_) (fun _ => ?_)
    · refine x_bipush C (v := -4) (k_dg dt_X11_prove_0 11 22 (.bipush (-4)) 2 rfl) (by decide) ?_
      exact x_iret C (by decide) (by decide) (k_dg dt_X11_prove_0 12 24 (.ireturn) 1 rfl)
    · refine x_aload_n C (k_dg dt_X11_prove_0 13 25 (.aload_n 0) 1 rfl) 0 rfl ?_
      refine x_getR C (a := 0) (j := 1) 3 rfl rfl (by decide) fl_RX11_19 rfl rfl rfl (k_dg dt_X11_prove_0 14 26 (.getfield 19) 3 rfl) ?_
      refine x_iload_n C (k_dg dt_X11_prove_0 15 29 (.iload_n 1) 1 rfl) 1 rfl ?_
      refine x_callS C (vs := [k_ra Z 3, Value.int p1]) (rest := []) (c_X0_lasts C.2.2.2.2.2.2.2.2.2 G.2.1 8 3 p1 M2 isW3) cy_X0_lasts lk_RX11_207 stt_X0_lasts (by decide) (by decide) (by decide) (by decide) rfl rfl (Nat.le_of_ble_eq_true rfl) (k_dg dt_X11_prove_0 16 30 (.invokestatic 207) 3 rfl) (fun r3 M4 => ?_)
      show Sm Z G _ _ _ _ [(0, k_ra Z 0), (1, Value.int p1)] [Value.int r3] _ _
      refine x_if_ne C (tgt := 39) (k_dg dt_X11_prove_0 17 33 (.ifCond .ne 6) 3 rfl) (by decide) (fun _ => ?_) (fun _ => ?_)
      · refine x_bipush C (v := -3) (k_dg dt_X11_prove_0 18 36 (.bipush (-3)) 2 rfl) (by decide) ?_
        exact x_iret C (by decide) (by decide) (k_dg dt_X11_prove_0 19 38 (.ireturn) 1 rfl)
      · refine x_aload_n C (k_dg dt_X11_prove_0 20 39 (.aload_n 0) 1 rfl) 0 rfl ?_
        refine x_getR C (a := 0) (j := 3) 43 rfl rfl (by decide) fl_RX11_26 rfl rfl rfl (k_dg dt_X11_prove_0 21 40 (.getfield 26) 3 rfl) ?_
        refine x_aload_n C (k_dg dt_X11_prove_0 22 43 (.aload_n 0) 1 rfl) 0 rfl ?_
        refine x_getR C (a := 0) (j := 1) 3 rfl rfl (by decide) fl_RX11_19 rfl rfl rfl (k_dg dt_X11_prove_0 23 44 (.getfield 19) 3 rfl) ?_
        refine x_callV C (a := 43) (kd := 8) (vs := [k_ra Z 3]) (rest := []) rfl rfl (by decide) (fun r hr => by cases hr; rfl) (c_X10_copyFrom C.2.2.2.2.2.2.2.2.2 G.2.1 43 3 M4 isW43 isW3) cy_X10_copyFrom lk_RX11_227 im_X10_copyFrom se_X10_copyFrom (by decide) (by decide) (by decide) (by decide) rfl rfl (Nat.le_of_ble_eq_true rfl) (k_dg dt_X11_prove_0 24 47 (.invokevirtual 227) 3 rfl) (fun r5 M6 => ?_)
        show Sm Z G _ _ _ _ [(0, k_ra Z 0), (1, Value.int p1)] [] _ _
        refine x_aload_n C (k_dg dt_X11_prove_0 25 50 (.aload_n 0) 1 rfl) 0 rfl ?_
        refine x_getR C (a := 0) (j := 1) 3 rfl rfl (by decide) fl_RX11_19 rfl rfl rfl (k_dg dt_X11_prove_0 26 51 (.getfield 19) 3 rfl) ?_
        refine x_getI C (a := 3) (j := 5) rfl rfl (by decide) fl_RX11_172 rfl (k_dg dt_X11_prove_0 27 54 (.getfield 172) 3 rfl) ?_
        refine x_iload_n C (k_dg dt_X11_prove_0 28 57 (.iload_n 1) 1 rfl) 1 rfl ?_
        refine x_iadd C (k_dg dt_X11_prove_0 29 58 (.iadd) 1 rfl) ?_
        refine x_nm (w := Value.int) (fun v7 _ => ?_)
        refine x_istore_n C (lv' := [(2, Value.int v7), (0, k_ra Z 0), (1, Value.int p1)]) (k_dg dt_X11_prove_0 30 59 (.istore_n 2) 1 rfl) (by decide) rfl ?_
        refine x_aload_n C (k_dg dt_X11_prove_0 31 60 (.aload_n 0) 1 rfl) 1 rfl ?_
        refine x_iconst C (v := 0) (k_dg dt_X11_prove_0 32 61 (.iconst 0) 1 rfl) (by decide) ?_
        refine x_putI C (a := 0) (j := 6) rfl rfl (by decide) fl_RX11_37 rfl pt_9_6 tb_9 rfl rfl (k_dg dt_X11_prove_0 33 62 (.putfield 37) 3 rfl) (fun M8 => ?_)
        refine x_lv [1, 0] rfl ?_
        exact m_X11_prove_65 C (fun M_ => f_X11_prove_114 M_) (fun M_ => f_X11_prove_182 M_) (fun M_ => m_X11_prove_114 C M_) (fun M_ => m_X11_prove_182 C M_) k_fu v7 M8
theorem c_X11_prove {Z : k_Z} (hg : k_Gd Z) (l : Launch) (p1 : Int32) (M : k_M) : Con true Z l yX11_prove cX11_prove 4 (some .int) 22 0 0 emI [k_ra Z 0, Value.int p1] M (f_X11_prove p1 M) := k_con hg (by decide) (Nat.le_of_ble_eq_true rfl) (fun G hl C => m_X11_prove_0 C p1 M)
theorem dt_X11_isRowPart_0 : k_dec cX11_isRowPart [(0, .iload_n 1, 1), (1, .iconst 0, 1), (2, .aload_n 0, 1), (3, .getfield 37, 3), (6, .iconst 1, 1), (7, .isub, 1), (8, .invokestatic 95, 3), (11, .ifCond .eq 16, 3), (14, .iload_n 2, 1), (15, .iconst 0, 1), (16, .iconst 2, 1), (17, .invokestatic 95, 3), (20, .ifCond .eq 7, 3), (23, .iconst 1, 1), (24, .goto 4, 3), (27, .iconst 0, 1), (28, .ireturn, 1)] = true := by decide +kernel
def f_X11_isRowPart (p1 : Int32) (p2 : Int32) (M : k_M) : Option (Int32 × k_M) := bd (f_X11_within p1 0 ((M.1 0 6) - 1) M) (fun r1 M2 => if r1 = 0 then some (0, M2) else bd (f_X11_within p2 0 2 M2) (fun r3 M4 => if r3 = 0 then some (0, M4) else some (1, M4)))
theorem m_X11_isRowPart_0 {Z : k_Z} {G : k_G} (C : k_C Z G RX11 cX11_isRowPart (true, 3, 2, 0, 0) (some .boolean) "isRowPart") (p1 : Int32) (p2 : Int32) (M : k_M) : Sm Z G emI (true, 3, 2, 0, 0) (0, 0) 0 [(0, k_ra Z 0), (1, Value.int p1), (2, Value.int p2)] [] M (f_X11_isRowPart p1 p2 M) := by
  show Sm Z G emI _ _ _ _ _ _ (bd (f_X11_within p1 0 ((M.1 0 6) - 1) M) (fun r1 M2 => if r1 = 0 then some (0, M2) else bd (f_X11_within p2 0 2 M2) (fun r3 M4 => if r3 = 0 then some (0, M4) else some (1, M4))))
  refine x_iload_n C (k_dg dt_X11_isRowPart_0 0 0 (.iload_n 1) 1 rfl) 1 rfl ?_
  refine x_iconst C (v := 0) (k_dg dt_X11_isRowPart_0 1 1 (.iconst 0) 1 rfl) (by decide) ?_
  refine x_aload_n C (k_dg dt_X11_isRowPart_0 2 2 (.aload_n 0) 1 rfl) 0 rfl ?_
  refine x_getI C (a := 0) (j := 6) rfl rfl (by decide) fl_RX11_37 rfl (k_dg dt_X11_isRowPart_0 3 3 (.getfield 37) 3 rfl) ?_
  refine x_iconst C (v := 1) (k_dg dt_X11_isRowPart_0 4 6 (.iconst 1) 1 rfl) (by decide) ?_
  refine x_isub C (k_dg dt_X11_isRowPart_0 5 7 (.isub) 1 rfl) ?_
  refine x_callS C (vs := [Value.int p1, Value.int 0, Value.int ((M.1 0 6) - 1)]) (rest := []) (c_X11_within C.2.2.2.2.2.2.2.2.2 G.2.1 p1 0 ((M.1 0 6) - 1) M) cy_X11_within lk_RX11_95 stt_X11_within (by decide) (by decide) (by decide) (by decide) rfl rfl (Nat.le_of_ble_eq_true rfl) (k_dg dt_X11_isRowPart_0 6 8 (.invokestatic 95) 3 rfl) (fun r1 M2 => ?_)
  show Sm Z G _ _ _ _ [(0, k_ra Z 0), (1, Value.int p1), (2, Value.int p2)] [Value.int r1] _ _
  refine x_if_eq C (tgt := 27) (k_dg dt_X11_isRowPart_0 7 11 (.ifCond .eq 16) 3 rfl) (by decide) (fun _ => ?_) (fun _ => ?_)
  · refine x_iconst C (v := 0) (k_dg dt_X11_isRowPart_0 15 27 (.iconst 0) 1 rfl) (by decide) ?_
    exact x_zret C (by decide) (by decide) rfl (k_dg dt_X11_isRowPart_0 16 28 (.ireturn) 1 rfl)
  · refine x_iload_n C (k_dg dt_X11_isRowPart_0 8 14 (.iload_n 2) 1 rfl) 2 rfl ?_
    refine x_iconst C (v := 0) (k_dg dt_X11_isRowPart_0 9 15 (.iconst 0) 1 rfl) (by decide) ?_
    refine x_iconst C (v := 2) (k_dg dt_X11_isRowPart_0 10 16 (.iconst 2) 1 rfl) (by decide) ?_
    refine x_callS C (vs := [Value.int p2, Value.int 0, Value.int 2]) (rest := []) (c_X11_within C.2.2.2.2.2.2.2.2.2 G.2.1 p2 0 2 M2) cy_X11_within lk_RX11_95 stt_X11_within (by decide) (by decide) (by decide) (by decide) rfl rfl (Nat.le_of_ble_eq_true rfl) (k_dg dt_X11_isRowPart_0 11 17 (.invokestatic 95) 3 rfl) (fun r3 M4 => ?_)
    show Sm Z G _ _ _ _ [(0, k_ra Z 0), (1, Value.int p1), (2, Value.int p2)] [Value.int r3] _ _
    refine x_if_eq C (tgt := 27) (k_dg dt_X11_isRowPart_0 12 20 (.ifCond .eq 7) 3 rfl) (by decide) (fun _ => ?_) (fun _ => ?_)
    · refine x_iconst C (v := 0) (k_dg dt_X11_isRowPart_0 15 27 (.iconst 0) 1 rfl) (by decide) ?_
      exact x_zret C (by decide) (by decide) rfl (k_dg dt_X11_isRowPart_0 16 28 (.ireturn) 1 rfl)
    · refine x_iconst C (v := 1) (k_dg dt_X11_isRowPart_0 13 23 (.iconst 1) 1 rfl) (by decide) ?_
      refine x_goto C (tgt := 28) (k_dg dt_X11_isRowPart_0 14 24 (.goto 4) 3 rfl) (by decide) ?_
      exact x_zret C (by decide) (by decide) rfl (k_dg dt_X11_isRowPart_0 16 28 (.ireturn) 1 rfl)
theorem c_X11_isRowPart {Z : k_Z} (hg : k_Gd Z) (l : Launch) (p1 : Int32) (p2 : Int32) (M : k_M) : Con true Z l yX11_isRowPart cX11_isRowPart 3 (some .boolean) 2 0 0 emI [k_ra Z 0, Value.int p1, Value.int p2] M (f_X11_isRowPart p1 p2 M) := k_con hg (by decide) (Nat.le_of_ble_eq_true rfl) (fun G hl C => m_X11_isRowPart_0 C p1 p2 M)
theorem dt_X11_row_0 : k_dec cX11_row [(0, .aload_n 0, 1), (1, .iload_n 1, 1), (2, .iload_n 2, 1), (3, .invokevirtual 267, 3), (6, .ifCond .eq 16, 3), (9, .aload_n 0, 1), (10, .getfield 33, 3), (13, .iload_n 1, 1), (14, .iconst 3, 1), (15, .imul, 1), (16, .iload_n 2, 1), (17, .iadd, 1), (18, .iaload, 1), (19, .goto 5, 3), (22, .bipush (-9), 2), (24, .ireturn, 1)] = true := by decide +kernel
def f_X11_row (p1 : Int32) (p2 : Int32) (M : k_M) : Option (Int32 × k_M) := bd (f_X11_isRowPart p1 p2 M) (fun r1 M2 => if r1 = 0 then some (-9, M2) else rdI M2 63 18 ((p1 * 3) + p2) (fun v3 => some (v3, M2)))
theorem m_X11_row_0 {Z : k_Z} {G : k_G} (C : k_C Z G RX11 cX11_row (true, 3, 3, 0, 0) (some .int) "row") (p1 : Int32) (p2 : Int32) (M : k_M) : Sm Z G emI (true, 3, 3, 0, 0) (0, 0) 0 [(0, k_ra Z 0), (1, Value.int p1), (2, Value.int p2)] [] M (f_X11_row p1 p2 M) := by
  show Sm Z G emI _ _ _ _ _ _ (bd (f_X11_isRowPart p1 p2 M) (fun r1 M2 => if r1 = 0 then some (-9, M2) else rdI M2 63 18 ((p1 * 3) + p2) (fun v3 => some (v3, M2))))
  refine x_aload_n C (k_dg dt_X11_row_0 0 0 (.aload_n 0) 1 rfl) 0 rfl ?_
  refine x_iload_n C (k_dg dt_X11_row_0 1 1 (.iload_n 1) 1 rfl) 1 rfl ?_
  refine x_iload_n C (k_dg dt_X11_row_0 2 2 (.iload_n 2) 1 rfl) 2 rfl ?_
  refine x_callV C (a := 0) (kd := 9) (vs := [Value.int p1, Value.int p2]) (rest := []) rfl rfl (by decide) (fun r hr => by cases hr; rfl) (c_X11_isRowPart C.2.2.2.2.2.2.2.2.2 G.2.1 p1 p2 M) cy_X11_isRowPart lk_RX11_267 im_X11_isRowPart se_X11_isRowPart (by decide) (by decide) (by decide) (by decide) rfl rfl (Nat.le_of_ble_eq_true rfl) (k_dg dt_X11_row_0 3 3 (.invokevirtual 267) 3 rfl) (fun r1 M2 => ?_)
  show Sm Z G _ _ _ _ [(0, k_ra Z 0), (1, Value.int p1), (2, Value.int p2)] [Value.int r1] _ _
  refine x_if_eq C (tgt := 22) (k_dg dt_X11_row_0 4 6 (.ifCond .eq 16) 3 rfl) (by decide) (fun _ => ?_) (fun _ => ?_)
  · refine x_bipush C (v := -9) (k_dg dt_X11_row_0 14 22 (.bipush (-9)) 2 rfl) (by decide) ?_
    exact x_iret C (by decide) (by decide) (k_dg dt_X11_row_0 15 24 (.ireturn) 1 rfl)
  · refine x_aload_n C (k_dg dt_X11_row_0 5 9 (.aload_n 0) 1 rfl) 0 rfl ?_
    refine x_getR C (a := 0) (j := 5) 63 rfl rfl (by decide) fl_RX11_33 rfl rfl rfl (k_dg dt_X11_row_0 6 10 (.getfield 33) 3 rfl) ?_
    refine x_iload_n C (k_dg dt_X11_row_0 7 13 (.iload_n 1) 1 rfl) 1 rfl ?_
    refine x_iconst C (v := 3) (k_dg dt_X11_row_0 8 14 (.iconst 3) 1 rfl) (by decide) ?_
    refine x_imul C (k_dg dt_X11_row_0 9 15 (.imul) 1 rfl) ?_
    refine x_iload_n C (k_dg dt_X11_row_0 10 16 (.iload_n 2) 1 rfl) 2 rfl ?_
    refine x_iadd C (k_dg dt_X11_row_0 11 17 (.iadd) 1 rfl) ?_
    refine x_iald C (a := 63) (n := 18) rfl rfl (k_dg dt_X11_row_0 12 18 (.iaload) 1 rfl) (fun v3 => ?_)
    refine x_goto C (tgt := 24) (k_dg dt_X11_row_0 13 19 (.goto 5) 3 rfl) (by decide) ?_
    exact x_iret C (by decide) (by decide) (k_dg dt_X11_row_0 15 24 (.ireturn) 1 rfl)
theorem c_X11_row {Z : k_Z} (hg : k_Gd Z) (l : Launch) (p1 : Int32) (p2 : Int32) (M : k_M) : Con true Z l yX11_row cX11_row 3 (some .int) 3 0 0 emI [k_ra Z 0, Value.int p1, Value.int p2] M (f_X11_row p1 p2 M) := k_con hg (by decide) (Nat.le_of_ble_eq_true rfl) (fun G hl C => m_X11_row_0 C p1 p2 M)
theorem dt_X11_alterRow_0 : k_dec cX11_alterRow [(0, .aload_n 0, 1), (1, .iload_n 1, 1), (2, .iload_n 2, 1), (3, .invokevirtual 267, 3), (6, .ifCond .ne 6, 3), (9, .bipush (-9), 2), (11, .ireturn, 1), (12, .aload_n 0, 1), (13, .getfield 33, 3), (16, .iload_n 1, 1), (17, .iconst 3, 1), (18, .imul, 1), (19, .iload_n 2, 1), (20, .iadd, 1), (21, .iaload, 1), (22, .istore 4, 2), (24, .aload_n 0, 1), (25, .getfield 33, 3), (28, .iload_n 1, 1), (29, .iconst 3, 1), (30, .imul, 1), (31, .iload_n 2, 1), (32, .iadd, 1), (33, .iload_n 3, 1), (34, .iastore, 1), (35, .iload 4, 2), (37, .ireturn, 1)] = true := by decide +kernel
def f_X11_alterRow (p1 : Int32) (p2 : Int32) (p3 : Int32) (M : k_M) : Option (Int32 × k_M) := bd (f_X11_isRowPart p1 p2 M) (fun r1 M2 => if r1 = 0 then some (-9, M2) else rdI M2 63 18 ((p1 * 3) + p2) (fun v3 => wrI M2 63 18 ((p1 * 3) + p2) p3 (fun M4 => some (v3, M4))))
theorem m_X11_alterRow_0 {Z : k_Z} {G : k_G} (C : k_C Z G RX11 cX11_alterRow (true, 5, 3, 0, 0) (some .int) "alterRow") (p1 : Int32) (p2 : Int32) (p3 : Int32) (M : k_M) : Sm Z G emI (true, 5, 3, 0, 0) (0, 0) 0 [(0, k_ra Z 0), (1, Value.int p1), (2, Value.int p2), (3, Value.int p3)] [] M (f_X11_alterRow p1 p2 p3 M) := by
  show Sm Z G emI _ _ _ _ _ _ (bd (f_X11_isRowPart p1 p2 M) (fun r1 M2 => if r1 = 0 then some (-9, M2) else rdI M2 63 18 ((p1 * 3) + p2) (fun v3 => wrI M2 63 18 ((p1 * 3) + p2) p3 (fun M4 => some (v3, M4)))))
  refine x_aload_n C (k_dg dt_X11_alterRow_0 0 0 (.aload_n 0) 1 rfl) 0 rfl ?_
  refine x_iload_n C (k_dg dt_X11_alterRow_0 1 1 (.iload_n 1) 1 rfl) 1 rfl ?_
  refine x_iload_n C (k_dg dt_X11_alterRow_0 2 2 (.iload_n 2) 1 rfl) 2 rfl ?_
  refine x_callV C (a := 0) (kd := 9) (vs := [Value.int p1, Value.int p2]) (rest := []) rfl rfl (by decide) (fun r hr => by cases hr; rfl) (c_X11_isRowPart C.2.2.2.2.2.2.2.2.2 G.2.1 p1 p2 M) cy_X11_isRowPart lk_RX11_267 im_X11_isRowPart se_X11_isRowPart (by decide) (by decide) (by decide) (by decide) rfl rfl (Nat.le_of_ble_eq_true rfl) (k_dg dt_X11_alterRow_0 3 3 (.invokevirtual 267) 3 rfl) (fun r1 M2 => ?_)
  show Sm Z G _ _ _ _ [(0, k_ra Z 0), (1, Value.int p1), (2, Value.int p2), (3, Value.int p3)] [Value.int r1] _ _
  refine x_if_ne C (tgt := 12) (k_dg dt_X11_alterRow_0 4 6 (.ifCond .ne 6) 3 rfl) (by decide) (fun _ => ?_) (fun _ => ?_)
  · refine x_bipush C (v := -9) (k_dg dt_X11_alterRow_0 5 9 (.bipush (-9)) 2 rfl) (by decide) ?_
    exact x_iret C (by decide) (by decide) (k_dg dt_X11_alterRow_0 6 11 (.ireturn) 1 rfl)
  · refine x_aload_n C (k_dg dt_X11_alterRow_0 7 12 (.aload_n 0) 1 rfl) 0 rfl ?_
    refine x_getR C (a := 0) (j := 5) 63 rfl rfl (by decide) fl_RX11_33 rfl rfl rfl (k_dg dt_X11_alterRow_0 8 13 (.getfield 33) 3 rfl) ?_
    refine x_iload_n C (k_dg dt_X11_alterRow_0 9 16 (.iload_n 1) 1 rfl) 1 rfl ?_
    refine x_iconst C (v := 3) (k_dg dt_X11_alterRow_0 10 17 (.iconst 3) 1 rfl) (by decide) ?_
    refine x_imul C (k_dg dt_X11_alterRow_0 11 18 (.imul) 1 rfl) ?_
    refine x_iload_n C (k_dg dt_X11_alterRow_0 12 19 (.iload_n 2) 1 rfl) 2 rfl ?_
    refine x_iadd C (k_dg dt_X11_alterRow_0 13 20 (.iadd) 1 rfl) ?_
    refine x_iald C (a := 63) (n := 18) rfl rfl (k_dg dt_X11_alterRow_0 14 21 (.iaload) 1 rfl) (fun v3 => ?_)
    refine x_istore C (lv' := [(4, Value.int v3), (0, k_ra Z 0), (1, Value.int p1), (2, Value.int p2), (3, Value.int p3)]) (k_dg dt_X11_alterRow_0 15 22 (.istore 4) 2 rfl) (by decide) rfl ?_
    refine x_aload_n C (k_dg dt_X11_alterRow_0 16 24 (.aload_n 0) 1 rfl) 1 rfl ?_
    refine x_getR C (a := 0) (j := 5) 63 rfl rfl (by decide) fl_RX11_33 rfl rfl rfl (k_dg dt_X11_alterRow_0 17 25 (.getfield 33) 3 rfl) ?_
    refine x_iload_n C (k_dg dt_X11_alterRow_0 18 28 (.iload_n 1) 1 rfl) 2 rfl ?_
    refine x_iconst C (v := 3) (k_dg dt_X11_alterRow_0 19 29 (.iconst 3) 1 rfl) (by decide) ?_
    refine x_imul C (k_dg dt_X11_alterRow_0 20 30 (.imul) 1 rfl) ?_
    refine x_iload_n C (k_dg dt_X11_alterRow_0 21 31 (.iload_n 2) 1 rfl) 3 rfl ?_
    refine x_iadd C (k_dg dt_X11_alterRow_0 22 32 (.iadd) 1 rfl) ?_
    refine x_iload_n C (k_dg dt_X11_alterRow_0 23 33 (.iload_n 3) 1 rfl) 4 rfl ?_
    refine x_iast C (a := 63) (n := 18) rfl rfl (k_dg dt_X11_alterRow_0 24 34 (.iastore) 1 rfl) (fun M4 => ?_)
    refine x_iload C (k_dg dt_X11_alterRow_0 25 35 (.iload 4) 2 rfl) 0 rfl ?_
    exact x_iret C (by decide) (by decide) (k_dg dt_X11_alterRow_0 26 37 (.ireturn) 1 rfl)
theorem c_X11_alterRow {Z : k_Z} (hg : k_Gd Z) (l : Launch) (p1 : Int32) (p2 : Int32) (p3 : Int32) (M : k_M) : Con true Z l yX11_alterRow cX11_alterRow 5 (some .int) 3 0 0 emI [k_ra Z 0, Value.int p1, Value.int p2, Value.int p3] M (f_X11_alterRow p1 p2 p3 M) := k_con hg (by decide) (Nat.le_of_ble_eq_true rfl) (fun G hl C => m_X11_alterRow_0 C p1 p2 p3 M)
theorem dt_X11_judge_0 : k_dec cX11_judge [(0, .aload_n 0, 1), (1, .getfield 19, 3), (4, .getfield 89, 3), (7, .ifCond .ne 6, 3), (10, .bipush (-4), 2), (12, .ireturn, 1), (13, .aload_n 0, 1), (14, .getfield 26, 3), (17, .aload_n 0, 1), (18, .getfield 19, 3), (21, .invokevirtual 227, 3), (24, .iconst 0, 1), (25, .istore_n 1, 1), (26, .iload_n 1, 1), (27, .aload_n 0, 1), (28, .getfield 37, 3), (31, .if_icmp .ge 76, 3), (34, .aload_n 0, 1), (35, .getfield 26, 3), (38, .aload_n 0, 1), (39, .getfield 33, 3), (42, .iload_n 1, 1), (43, .iconst 3, 1), (44, .imul, 1), (45, .iaload, 1), (46, .invokevirtual 189, 3), (49, .iconst (-1), 1), (50, .if_icmp .ne 7, 3), (53, .iload_n 1, 1), (54, .iconst 1, 1), (55, .iadd, 1), (56, .ireturn, 1), (57, .aload_n 0, 1), (58, .getfield 26, 3), (61, .getfield 169, 3), (64, .aload_n 0, 1), (65, .getfield 33, 3), (68, .iload_n 1, 1), (69, .iconst 3, 1), (70, .imul, 1)] = true := by decide +kernel
theorem dt_X11_judge_1 : k_dec cX11_judge [(71, .iconst 1, 1), (72, .iadd, 1), (73, .iaload, 1), (74, .if_icmp .ne 23, 3), (77, .aload_n 0, 1), (78, .getfield 26, 3), (81, .invokevirtual 179, 3), (84, .aload_n 0, 1), (85, .getfield 33, 3), (88, .iload_n 1, 1), (89, .iconst 3, 1), (90, .imul, 1), (91, .iconst 2, 1), (92, .iadd, 1), (93, .iaload, 1), (94, .if_icmp .eq 7, 3), (97, .iload_n 1, 1), (98, .iconst 1, 1), (99, .iadd, 1), (100, .ireturn, 1), (101, .iinc 1 1, 3), (104, .goto (-78), 3), (107, .iconst 0, 1), (108, .ireturn, 1)] = true := by decide +kernel
def f_X11_judge_26 : Nat → Int32 → k_M → (Int32 → k_M → Option (Int32 × k_M)) → (Int32 → k_M → Option (Int32 × k_M)) → (k_M → Option (Int32 × k_M)) → Option (Int32 × k_M)
  | 0, _, _, _, _, _ => none
  | n + 1, l1, M, kx53, kx97, kx107 => if (M.1 0 6) ≤ l1 then kx107 M else rdI M 63 18 (l1 * 3) (fun v1 => bd (f_X10_attempt 43 v1 M) (fun r2 M3 => if r2 = (-1) then kx53 l1 M3 else rdI M3 63 18 ((l1 * 3) + 1) (fun v4 => if (M3.1 43 4) = v4 then bd (f_X10_worth 43 M3) (fun r5 M6 => rdI M6 63 18 ((l1 * 3) + 2) (fun v7 => if r5 = v7 then f_X11_judge_26 n (l1 + 1) M6 kx53 kx97 kx107 else kx97 l1 M6)) else kx97 l1 M3)))
theorem m_X11_judge_26 {Z : k_Z} {G : k_G} (C : k_C Z G RX11 cX11_judge (true, 2, 4, 0, 0) (some .int) "judge") (kx53 : Int32 → k_M → Option (Int32 × k_M)) (kx97 : Int32 → k_M → Option (Int32 × k_M)) (kx107 : k_M → Option (Int32 × k_M)) (Hx53 : ∀ (l1 : Int32) (M : k_M), Sm Z G emI (true, 2, 4, 0, 0) (0, 0) 53 [(1, Value.int l1)] [] M (kx53 l1 M)) (Hx97 : ∀ (l1 : Int32) (M : k_M), Sm Z G emI (true, 2, 4, 0, 0) (0, 0) 97 [(1, Value.int l1)] [] M (kx97 l1 M)) (Hx107 : ∀ (M : k_M), Sm Z G emI (true, 2, 4, 0, 0) (0, 0) 107 [] [] M (kx107 M)) : ∀ (n : Nat) (l1 : Int32) (M : k_M), Sm Z G emI (true, 2, 4, 0, 0) (0, 0) 26 [(0, k_ra Z 0), (1, Value.int l1)] [] M (f_X11_judge_26 n l1 M kx53 kx97 kx107)
  | 0, _, _ => x_none
  | n + 1, l1, M => by
    have ih := m_X11_judge_26 C kx53 kx97 kx107 Hx53 Hx97 Hx107 n
    show Sm Z G emI _ _ _ _ _ _ (if (M.1 0 6) ≤ l1 then kx107 M else rdI M 63 18 (l1 * 3) (fun v1 => bd (f_X10_attempt 43 v1 M) (fun r2 M3 => if r2 = (-1) then kx53 l1 M3 else rdI M3 63 18 ((l1 * 3) + 1) (fun v4 => if (M3.1 43 4) = v4 then bd (f_X10_worth 43 M3) (fun r5 M6 => rdI M6 63 18 ((l1 * 3) + 2) (fun v7 => if r5 = v7 then f_X11_judge_26 n (l1 + 1) M6 kx53 kx97 kx107 else kx97 l1 M6)) else kx97 l1 M3))))
    refine x_iload_n C (k_dg dt_X11_judge_0 13 26 (.iload_n 1) 1 rfl) 1 rfl ?_
    refine x_aload_n C (k_dg dt_X11_judge_0 14 27 (.aload_n 0) 1 rfl) 0 rfl ?_
    refine x_getI C (a := 0) (j := 6) rfl rfl (by decide) fl_RX11_37 rfl (k_dg dt_X11_judge_0 15 28 (.getfield 37) 3 rfl) ?_
    refine x_icmp_ge C (tgt := 107) (k_dg dt_X11_judge_0 16 31 (.if_icmp .ge 76) 3 rfl) (by decide) (fun _ => ?_) (fun _ => ?_)
    · refine x_lv [] rfl ?_
      exact Hx107 M
    · refine x_aload_n C (k_dg dt_X11_judge_0 17 34 (.aload_n 0) 1 rfl) 0 rfl ?_
      refine x_getR C (a := 0) (j := 3) 43 rfl rfl (by decide) fl_RX11_26 rfl rfl rfl (k_dg dt_X11_judge_0 18 35 (.getfield 26) 3 rfl) ?_
      refine x_aload_n C (k_dg dt_X11_judge_0 19 38 (.aload_n 0) 1 rfl) 0 rfl ?_
      refine x_getR C (a := 0) (j := 5) 63 rfl rfl (by decide) fl_RX11_33 rfl rfl rfl (k_dg dt_X11_judge_0 20 39 (.getfield 33) 3 rfl) ?_
      refine x_iload_n C (k_dg dt_X11_judge_0 21 42 (.iload_n 1) 1 rfl) 1 rfl ?_
      refine x_iconst C (v := 3) (k_dg dt_X11_judge_0 22 43 (.iconst 3) 1 rfl) (by decide) ?_
      refine x_imul C (k_dg dt_X11_judge_0 23 44 (.imul) 1 rfl) ?_
      refine x_iald C (a := 63) (n := 18) rfl rfl (k_dg dt_X11_judge_0 24 45 (.iaload) 1 rfl) (fun v1 => ?_)
      refine x_callV C (a := 43) (kd := 8) (vs := [Value.int v1]) (rest := []) rfl rfl (by decide) (fun r hr => by cases hr; rfl) (c_X10_attempt C.2.2.2.2.2.2.2.2.2 G.2.1 43 v1 M isW43) cy_X10_attempt lk_RX11_189 im_X10_attempt se_X10_attempt (by decide) (by decide) (by decide) (by decide) rfl rfl (Nat.le_of_ble_eq_true rfl) (k_dg dt_X11_judge_0 25 46 (.invokevirtual 189) 3 rfl) (fun r2 M3 => ?_)
      show Sm Z G _ _ _ _ [(0, k_ra Z 0), (1, Value.int l1)] [Value.int r2] _ _
      refine x_iconst C (v := -1) (k_dg dt_X11_judge_0 26 49 (.iconst (-1)) 1 rfl) (by decide) ?_
      refine x_icmp_ne C (tgt := 57) (k_dg dt_X11_judge_0 27 50 (.if_icmp .ne 7) 3 rfl) (by decide) (fun _ => ?_) (fun _ => ?_)
      · refine x_lv [1] rfl ?_
        exact Hx53 l1 M3
      · refine x_aload_n C (k_dg dt_X11_judge_0 32 57 (.aload_n 0) 1 rfl) 0 rfl ?_
        refine x_getR C (a := 0) (j := 3) 43 rfl rfl (by decide) fl_RX11_26 rfl rfl rfl (k_dg dt_X11_judge_0 33 58 (.getfield 26) 3 rfl) ?_
        refine x_getI C (a := 43) (j := 4) rfl rfl (by decide) fl_RX11_169 rfl (k_dg dt_X11_judge_0 34 61 (.getfield 169) 3 rfl) ?_
        refine x_aload_n C (k_dg dt_X11_judge_0 35 64 (.aload_n 0) 1 rfl) 0 rfl ?_
        refine x_getR C (a := 0) (j := 5) 63 rfl rfl (by decide) fl_RX11_33 rfl rfl rfl (k_dg dt_X11_judge_0 36 65 (.getfield 33) 3 rfl) ?_
        refine x_iload_n C (k_dg dt_X11_judge_0 37 68 (.iload_n 1) 1 rfl) 1 rfl ?_
        refine x_iconst C (v := 3) (k_dg dt_X11_judge_0 38 69 (.iconst 3) 1 rfl) (by decide) ?_
        refine x_imul C (k_dg dt_X11_judge_0 39 70 (.imul) 1 rfl) ?_
        refine x_iconst C (v := 1) (k_dg dt_X11_judge_1 0 71 (.iconst 1) 1 rfl) (by decide) ?_
        refine x_iadd C (k_dg dt_X11_judge_1 1 72 (.iadd) 1 rfl) ?_
        refine x_iald C (a := 63) (n := 18) rfl rfl (k_dg dt_X11_judge_1 2 73 (.iaload) 1 rfl) (fun v4 => ?_)
        refine x_icmp_ne C (tgt := 97) (k_dg dt_X11_judge_1 3 74 (.if_icmp .ne 23) 3 rfl) (by decide) (fun _ => ?_) (fun _ => ?_)
        · refine x_aload_n C (k_dg dt_X11_judge_1 4 77 (.aload_n 0) 1 rfl) 0 rfl ?_
          refine x_getR C (a := 0) (j := 3) 43 rfl rfl (by decide) fl_RX11_26 rfl rfl rfl (k_dg dt_X11_judge_1 5 78 (.getfield 26) 3 rfl) ?_
          refine x_callV C (a := 43) (kd := 8) (vs := []) (rest := []) rfl rfl (by decide) (fun r hr => by cases hr; rfl) (c_X10_worth C.2.2.2.2.2.2.2.2.2 G.2.1 43 M3 isW43) cy_X10_worth lk_RX11_179 im_X10_worth se_X10_worth (by decide) (by decide) (by decide) (by decide) rfl rfl (Nat.le_of_ble_eq_true rfl) (k_dg dt_X11_judge_1 6 81 (.invokevirtual 179) 3 rfl) (fun r5 M6 => ?_)
          show Sm Z G _ _ _ _ [(0, k_ra Z 0), (1, Value.int l1)] [Value.int r5] _ _
          refine x_aload_n C (k_dg dt_X11_judge_1 7 84 (.aload_n 0) 1 rfl) 0 rfl ?_
          refine x_getR C (a := 0) (j := 5) 63 rfl rfl (by decide) fl_RX11_33 rfl rfl rfl (k_dg dt_X11_judge_1 8 85 (.getfield 33) 3 rfl) ?_
          refine x_iload_n C (k_dg dt_X11_judge_1 9 88 (.iload_n 1) 1 rfl) 1 rfl ?_
          refine x_iconst C (v := 3) (k_dg dt_X11_judge_1 10 89 (.iconst 3) 1 rfl) (by decide) ?_
          refine x_imul C (k_dg dt_X11_judge_1 11 90 (.imul) 1 rfl) ?_
          refine x_iconst C (v := 2) (k_dg dt_X11_judge_1 12 91 (.iconst 2) 1 rfl) (by decide) ?_
          refine x_iadd C (k_dg dt_X11_judge_1 13 92 (.iadd) 1 rfl) ?_
          refine x_iald C (a := 63) (n := 18) rfl rfl (k_dg dt_X11_judge_1 14 93 (.iaload) 1 rfl) (fun v7 => ?_)
          refine x_icmp_eq C (tgt := 101) (k_dg dt_X11_judge_1 15 94 (.if_icmp .eq 7) 3 rfl) (by decide) (fun _ => ?_) (fun _ => ?_)
          · refine x_iinc C (v := 1) (lv' := [(1, Value.int (l1 + 1)), (0, k_ra Z 0)]) (k_dg dt_X11_judge_1 20 101 (.iinc 1 1) 3 rfl) 1 rfl (by decide) (by decide) rfl ?_
            refine x_goto C (tgt := 26) (k_dg dt_X11_judge_1 21 104 (.goto (-78)) 3 rfl) (by decide) ?_
            refine x_lv [1, 0] rfl ?_
            exact ih (l1 + 1) M6
          · refine x_lv [1] rfl ?_
            exact Hx97 l1 M6
        · refine x_lv [1] rfl ?_
          exact Hx97 l1 M3
def f_X11_judge_53 (l1 : Int32) (M : k_M) : Option (Int32 × k_M) := some (l1 + 1, M)
theorem m_X11_judge_53 {Z : k_Z} {G : k_G} (C : k_C Z G RX11 cX11_judge (true, 2, 4, 0, 0) (some .int) "judge") (l1 : Int32) (M : k_M) : Sm Z G emI (true, 2, 4, 0, 0) (0, 0) 53 [(1, Value.int l1)] [] M (f_X11_judge_53 l1 M) := by
  show Sm Z G emI _ _ _ _ _ _ (some (l1 + 1, M))
  refine x_iload_n C (k_dg dt_X11_judge_0 28 53 (.iload_n 1) 1 rfl) 0 rfl ?_
  refine x_iconst C (v := 1) (k_dg dt_X11_judge_0 29 54 (.iconst 1) 1 rfl) (by decide) ?_
  refine x_iadd C (k_dg dt_X11_judge_0 30 55 (.iadd) 1 rfl) ?_
  exact x_iret C (by decide) (by decide) (k_dg dt_X11_judge_0 31 56 (.ireturn) 1 rfl)
def f_X11_judge_97 (l1 : Int32) (M : k_M) : Option (Int32 × k_M) := some (l1 + 1, M)
theorem m_X11_judge_97 {Z : k_Z} {G : k_G} (C : k_C Z G RX11 cX11_judge (true, 2, 4, 0, 0) (some .int) "judge") (l1 : Int32) (M : k_M) : Sm Z G emI (true, 2, 4, 0, 0) (0, 0) 97 [(1, Value.int l1)] [] M (f_X11_judge_97 l1 M) := by
  show Sm Z G emI _ _ _ _ _ _ (some (l1 + 1, M))
  refine x_iload_n C (k_dg dt_X11_judge_1 16 97 (.iload_n 1) 1 rfl) 0 rfl ?_
  refine x_iconst C (v := 1) (k_dg dt_X11_judge_1 17 98 (.iconst 1) 1 rfl) (by decide) ?_
  refine x_iadd C (k_dg dt_X11_judge_1 18 99 (.iadd) 1 rfl) ?_
  exact x_iret C (by decide) (by decide) (k_dg dt_X11_judge_1 19 100 (.ireturn) 1 rfl)
def f_X11_judge_107 (M : k_M) : Option (Int32 × k_M) := some (0, M)
theorem m_X11_judge_107 {Z : k_Z} {G : k_G} (C : k_C Z G RX11 cX11_judge (true, 2, 4, 0, 0) (some .int) "judge") (M : k_M) : Sm Z G emI (true, 2, 4, 0, 0) (0, 0) 107 [] [] M (f_X11_judge_107 M) := by
  show Sm Z G emI _ _ _ _ _ _ (some (0, M))
  refine x_iconst C (v := 0) (k_dg dt_X11_judge_1 22 107 (.iconst 0) 1 rfl) (by decide) ?_
  exact x_iret C (by decide) (by decide) (k_dg dt_X11_judge_1 23 108 (.ireturn) 1 rfl)
def f_X11_judge (M : k_M) : Option (Int32 × k_M) := if (M.1 3 3) = 0 then some (-4, M) else bd (f_X10_copyFrom 43 3 M) (fun r1 M2 => f_X11_judge_26 k_fu 0 M2 (fun l1_ M_ => f_X11_judge_53 l1_ M_) (fun l1_ M_ => f_X11_judge_97 l1_ M_) (fun M_ => f_X11_judge_107 M_))
theorem m_X11_judge_0 {Z : k_Z} {G : k_G} (C : k_C Z G RX11 cX11_judge (true, 2, 4, 0, 0) (some .int) "judge") (M : k_M) : Sm Z G emI (true, 2, 4, 0, 0) (0, 0) 0 [(0, k_ra Z 0)] [] M (f_X11_judge M) := by
  show Sm Z G emI _ _ _ _ _ _ (if (M.1 3 3) = 0 then some (-4, M) else bd (f_X10_copyFrom 43 3 M) (fun r1 M2 => f_X11_judge_26 k_fu 0 M2 (fun l1_ M_ => f_X11_judge_53 l1_ M_) (fun l1_ M_ => f_X11_judge_97 l1_ M_) (fun M_ => f_X11_judge_107 M_)))
  refine x_aload_n C (k_dg dt_X11_judge_0 0 0 (.aload_n 0) 1 rfl) 0 rfl ?_
  refine x_getR C (a := 0) (j := 1) 3 rfl rfl (by decide) fl_RX11_19 rfl rfl rfl (k_dg dt_X11_judge_0 1 1 (.getfield 19) 3 rfl) ?_
  refine x_getI C (a := 3) (j := 3) rfl rfl (by decide) fl_RX11_89 rfl (k_dg dt_X11_judge_0 2 4 (.getfield 89) 3 rfl) ?_
  refine x_if_ne C (tgt := 13) (k_dg dt_X11_judge_0 3 7 (.ifCond .ne 6) 3 rfl) (by decide) (fun _ => ?_) (fun _ => ?_)
  · refine x_bipush C (v := -4) (k_dg dt_X11_judge_0 4 10 (.bipush (-4)) 2 rfl) (by decide) ?_
    exact x_iret C (by decide) (by decide) (k_dg dt_X11_judge_0 5 12 (.ireturn) 1 rfl)
  · refine x_aload_n C (k_dg dt_X11_judge_0 6 13 (.aload_n 0) 1 rfl) 0 rfl ?_
    refine x_getR C (a := 0) (j := 3) 43 rfl rfl (by decide) fl_RX11_26 rfl rfl rfl (k_dg dt_X11_judge_0 7 14 (.getfield 26) 3 rfl) ?_
    refine x_aload_n C (k_dg dt_X11_judge_0 8 17 (.aload_n 0) 1 rfl) 0 rfl ?_
    refine x_getR C (a := 0) (j := 1) 3 rfl rfl (by decide) fl_RX11_19 rfl rfl rfl (k_dg dt_X11_judge_0 9 18 (.getfield 19) 3 rfl) ?_
    refine x_callV C (a := 43) (kd := 8) (vs := [k_ra Z 3]) (rest := []) rfl rfl (by decide) (fun r hr => by cases hr; rfl) (c_X10_copyFrom C.2.2.2.2.2.2.2.2.2 G.2.1 43 3 M isW43 isW3) cy_X10_copyFrom lk_RX11_227 im_X10_copyFrom se_X10_copyFrom (by decide) (by decide) (by decide) (by decide) rfl rfl (Nat.le_of_ble_eq_true rfl) (k_dg dt_X11_judge_0 10 21 (.invokevirtual 227) 3 rfl) (fun r1 M2 => ?_)
    show Sm Z G _ _ _ _ [(0, k_ra Z 0)] [] _ _
    refine x_iconst C (v := 0) (k_dg dt_X11_judge_0 11 24 (.iconst 0) 1 rfl) (by decide) ?_
    refine x_istore_n C (lv' := [(1, Value.int 0), (0, k_ra Z 0)]) (k_dg dt_X11_judge_0 12 25 (.istore_n 1) 1 rfl) (by decide) rfl ?_
    refine x_lv [1, 0] rfl ?_
    exact m_X11_judge_26 C (fun l1_ M_ => f_X11_judge_53 l1_ M_) (fun l1_ M_ => f_X11_judge_97 l1_ M_) (fun M_ => f_X11_judge_107 M_) (fun l1_ M_ => m_X11_judge_53 C l1_ M_) (fun l1_ M_ => m_X11_judge_97 C l1_ M_) (fun M_ => m_X11_judge_107 C M_) k_fu 0 M2
theorem c_X11_judge {Z : k_Z} (hg : k_Gd Z) (l : Launch) (M : k_M) : Con true Z l yX11_judge cX11_judge 2 (some .int) 4 0 0 emI [k_ra Z 0] M (f_X11_judge M) := k_con hg (by decide) (Nat.le_of_ble_eq_true rfl) (fun G hl C => m_X11_judge_0 C M)
theorem dt_X11_sheet_0 : k_dec cX11_sheet [(0, .iload_n 1, 1), (1, .iconst 0, 1), (2, .iconst 3, 1), (3, .invokestatic 95, 3), (6, .ifCond .eq 12, 3), (9, .iload_n 2, 1), (10, .iconst (-1), 1), (11, .iconst 3, 1), (12, .invokestatic 95, 3), (15, .ifCond .ne 5, 3), (18, .iconst (-1), 1), (19, .ireturn, 1), (20, .iload_n 2, 1), (21, .iconst (-1), 1), (22, .if_icmp .ne 12, 3), (25, .aload_n 0, 1), (26, .getfield 41, 3), (29, .iload_n 1, 1), (30, .iconst (-1), 1), (31, .iastore, 1), (32, .iconst 1, 1), (33, .ireturn, 1), (34, .iload_n 3, 1), (35, .bipush 40, 2), (37, .if_icmp .le 5, 3), (40, .iconst (-1), 1), (41, .ireturn, 1), (42, .iload_n 3, 1), (43, .ifCond .ge 6, 3), (46, .bipush (-14), 2), (48, .ireturn, 1), (49, .aload_n 0, 1), (50, .getfield 41, 3), (53, .iload_n 1, 1), (54, .iload_n 2, 1), (55, .iastore, 1), (56, .aload_n 0, 1), (57, .getfield 44, 3), (60, .iload_n 1, 1), (61, .iload_n 3, 1)] = true := by decide +kernel
theorem dt_X11_sheet_1 : k_dec cX11_sheet [(62, .iastore, 1), (63, .aload_n 0, 1), (64, .getfield 49, 3), (67, .iload_n 1, 1), (68, .aaload, 1), (69, .lconst 0, 1), (70, .invokestatic 270, 3), (73, .iconst 1, 1), (74, .ireturn, 1)] = true := by decide +kernel
def f_X11_sheet (p1 : Int32) (p2 : Int32) (p3 : Int32) (M : k_M) : Option (Int32 × k_M) := bd (f_X11_within p1 0 3 M) (fun r1 M2 => if r1 = 0 then some (-1, M2) else bd (f_X11_within p2 (-1) 3 M2) (fun r3 M4 => if r3 = 0 then some (-1, M4) else if p2 = (-1) then wrI M4 64 4 p1 (-1) (fun M10 => some (1, M10)) else if p3 ≤ 40 then if 0 ≤ p3 then wrI M4 64 4 p1 p2 (fun M5 => wrI M5 65 4 p1 p3 (fun M6 => rdLL 66 p1 (fun q7 => bd (f_J7_fill_d0a16 q7 40 0 M6) (fun r8 M9 => some (1, M9))))) else some (-14, M4) else some (-1, M4)))
theorem m_X11_sheet_0 {Z : k_Z} {G : k_G} (C : k_C Z G RX11 cX11_sheet (true, 4, 2, 0, 0) (some .int) "sheet") (p1 : Int32) (p2 : Int32) (p3 : Int32) (M : k_M) : Sm Z G emI (true, 4, 2, 0, 0) (0, 0) 0 [(0, k_ra Z 0), (1, Value.int p1), (2, Value.int p2), (3, Value.int p3)] [] M (f_X11_sheet p1 p2 p3 M) := by
  show Sm Z G emI _ _ _ _ _ _ (bd (f_X11_within p1 0 3 M) (fun r1 M2 => if r1 = 0 then some (-1, M2) else bd (f_X11_within p2 (-1) 3 M2) (fun r3 M4 => if r3 = 0 then some (-1, M4) else if p2 = (-1) then wrI M4 64 4 p1 (-1) (fun M10 => some (1, M10)) else if p3 ≤ 40 then if 0 ≤ p3 then wrI M4 64 4 p1 p2 (fun M5 => wrI M5 65 4 p1 p3 (fun M6 => rdLL 66 p1 (fun q7 => bd (f_J7_fill_d0a16 q7 40 0 M6) (fun r8 M9 => some (1, M9))))) else some (-14, M4) else some (-1, M4))))
  refine x_iload_n C (k_dg dt_X11_sheet_0 0 0 (.iload_n 1) 1 rfl) 1 rfl ?_
  refine x_iconst C (v := 0) (k_dg dt_X11_sheet_0 1 1 (.iconst 0) 1 rfl) (by decide) ?_
  refine x_iconst C (v := 3) (k_dg dt_X11_sheet_0 2 2 (.iconst 3) 1 rfl) (by decide) ?_
  refine x_callS C (vs := [Value.int p1, Value.int 0, Value.int 3]) (rest := []) (c_X11_within C.2.2.2.2.2.2.2.2.2 G.2.1 p1 0 3 M) cy_X11_within lk_RX11_95 stt_X11_within (by decide) (by decide) (by decide) (by decide) rfl rfl (Nat.le_of_ble_eq_true rfl) (k_dg dt_X11_sheet_0 3 3 (.invokestatic 95) 3 rfl) (fun r1 M2 => ?_)
  show Sm Z G _ _ _ _ [(0, k_ra Z 0), (1, Value.int p1), (2, Value.int p2), (3, Value.int p3)] [Value.int r1] _ _
  refine x_if_eq C (tgt := 18) (k_dg dt_X11_sheet_0 4 6 (.ifCond .eq 12) 3 rfl) (by decide) (fun _ => ?_) (fun _ => ?_)
  · refine x_iconst C (v := -1) (k_dg dt_X11_sheet_0 10 18 (.iconst (-1)) 1 rfl) (by decide) ?_
    exact x_iret C (by decide) (by decide) (k_dg dt_X11_sheet_0 11 19 (.ireturn) 1 rfl)
  · refine x_iload_n C (k_dg dt_X11_sheet_0 5 9 (.iload_n 2) 1 rfl) 2 rfl ?_
    refine x_iconst C (v := -1) (k_dg dt_X11_sheet_0 6 10 (.iconst (-1)) 1 rfl) (by decide) ?_
    refine x_iconst C (v := 3) (k_dg dt_X11_sheet_0 7 11 (.iconst 3) 1 rfl) (by decide) ?_
    refine x_callS C (vs := [Value.int p2, Value.int (-1), Value.int 3]) (rest := []) (c_X11_within C.2.2.2.2.2.2.2.2.2 G.2.1 p2 (-1) 3 M2) cy_X11_within lk_RX11_95 stt_X11_within (by decide) (by decide) (by decide) (by decide) rfl rfl (Nat.le_of_ble_eq_true rfl) (k_dg dt_X11_sheet_0 8 12 (.invokestatic 95) 3 rfl) (fun r3 M4 => ?_)
    show Sm Z G _ _ _ _ [(0, k_ra Z 0), (1, Value.int p1), (2, Value.int p2), (3, Value.int p3)] [Value.int r3] _ _
    refine x_if_ne C (tgt := 20) (k_dg dt_X11_sheet_0 9 15 (.ifCond .ne 5) 3 rfl) (by decide) (fun _ => ?_) (fun _ => ?_)
    · refine x_iconst C (v := -1) (k_dg dt_X11_sheet_0 10 18 (.iconst (-1)) 1 rfl) (by decide) ?_
      exact x_iret C (by decide) (by decide) (k_dg dt_X11_sheet_0 11 19 (.ireturn) 1 rfl)
    · refine x_iload_n C (k_dg dt_X11_sheet_0 12 20 (.iload_n 2) 1 rfl) 2 rfl ?_
      refine x_iconst C (v := -1) (k_dg dt_X11_sheet_0 13 21 (.iconst (-1)) 1 rfl) (by decide) ?_
      refine x_icmp_ne C (tgt := 34) (k_dg dt_X11_sheet_0 14 22 (.if_icmp .ne 12) 3 rfl) (by decide) (fun _ => ?_) (fun _ => ?_)
      · refine x_aload_n C (k_dg dt_X11_sheet_0 15 25 (.aload_n 0) 1 rfl) 0 rfl ?_
        refine x_getR C (a := 0) (j := 7) 64 rfl rfl (by decide) fl_RX11_41 rfl rfl rfl (k_dg dt_X11_sheet_0 16 26 (.getfield 41) 3 rfl) ?_
        refine x_iload_n C (k_dg dt_X11_sheet_0 17 29 (.iload_n 1) 1 rfl) 1 rfl ?_
        refine x_iconst C (v := -1) (k_dg dt_X11_sheet_0 18 30 (.iconst (-1)) 1 rfl) (by decide) ?_
        refine x_iast C (a := 64) (n := 4) rfl rfl (k_dg dt_X11_sheet_0 19 31 (.iastore) 1 rfl) (fun M10 => ?_)
        refine x_iconst C (v := 1) (k_dg dt_X11_sheet_0 20 32 (.iconst 1) 1 rfl) (by decide) ?_
        exact x_iret C (by decide) (by decide) (k_dg dt_X11_sheet_0 21 33 (.ireturn) 1 rfl)
      · refine x_iload_n C (k_dg dt_X11_sheet_0 22 34 (.iload_n 3) 1 rfl) 3 rfl ?_
        refine x_bipush C (v := 40) (k_dg dt_X11_sheet_0 23 35 (.bipush 40) 2 rfl) (by decide) ?_
        refine x_icmp_le C (tgt := 42) (k_dg dt_X11_sheet_0 24 37 (.if_icmp .le 5) 3 rfl) (by decide) (fun _ => ?_) (fun _ => ?_)
        · refine x_iload_n C (k_dg dt_X11_sheet_0 27 42 (.iload_n 3) 1 rfl) 3 rfl ?_
          refine x_if_ge C (tgt := 49) (k_dg dt_X11_sheet_0 28 43 (.ifCond .ge 6) 3 rfl) (by decide) (fun _ => ?_) (fun _ => ?_)
          · refine x_aload_n C (k_dg dt_X11_sheet_0 31 49 (.aload_n 0) 1 rfl) 0 rfl ?_
            refine x_getR C (a := 0) (j := 7) 64 rfl rfl (by decide) fl_RX11_41 rfl rfl rfl (k_dg dt_X11_sheet_0 32 50 (.getfield 41) 3 rfl) ?_
            refine x_iload_n C (k_dg dt_X11_sheet_0 33 53 (.iload_n 1) 1 rfl) 1 rfl ?_
            refine x_iload_n C (k_dg dt_X11_sheet_0 34 54 (.iload_n 2) 1 rfl) 2 rfl ?_
            refine x_iast C (a := 64) (n := 4) rfl rfl (k_dg dt_X11_sheet_0 35 55 (.iastore) 1 rfl) (fun M5 => ?_)
            refine x_aload_n C (k_dg dt_X11_sheet_0 36 56 (.aload_n 0) 1 rfl) 0 rfl ?_
            refine x_getR C (a := 0) (j := 8) 65 rfl rfl (by decide) fl_RX11_44 rfl rfl rfl (k_dg dt_X11_sheet_0 37 57 (.getfield 44) 3 rfl) ?_
            refine x_iload_n C (k_dg dt_X11_sheet_0 38 60 (.iload_n 1) 1 rfl) 1 rfl ?_
            refine x_iload_n C (k_dg dt_X11_sheet_0 39 61 (.iload_n 3) 1 rfl) 3 rfl ?_
            refine x_iast C (a := 65) (n := 4) rfl rfl (k_dg dt_X11_sheet_1 0 62 (.iastore) 1 rfl) (fun M6 => ?_)
            refine x_aload_n C (k_dg dt_X11_sheet_1 1 63 (.aload_n 0) 1 rfl) 0 rfl ?_
            refine x_getR C (a := 0) (j := 9) 66 rfl rfl (by decide) fl_RX11_49 rfl rfl rfl (k_dg dt_X11_sheet_1 2 64 (.getfield 49) 3 rfl) ?_
            refine x_iload_n C (k_dg dt_X11_sheet_1 3 67 (.iload_n 1) 1 rfl) 1 rfl ?_
            refine x_aall C rfl (k_dg dt_X11_sheet_1 4 68 (.aaload) 1 rfl) (fun q7 hq7 => ?_)
            refine x_lconst C (v := 0) (k_dg dt_X11_sheet_1 5 69 (.lconst 0) 1 rfl) (by decide) ?_
            refine x_callS C (vs := [k_ra Z q7, Value.long 0]) (rest := []) (c_J7_fill_d0a16 C.2.2.2.2.2.2.2.2.2 G.2.1 q7 40 0 M6 hq7) cy_J7_fill_d0a16 lk_RX11_270 stt_J7_fill_d0a16 (by decide) (by decide) (by decide) (by decide) rfl rfl (Nat.le_of_ble_eq_true rfl) (k_dg dt_X11_sheet_1 6 70 (.invokestatic 270) 3 rfl) (fun r8 M9 => ?_)
            show Sm Z G _ _ _ _ [(0, k_ra Z 0), (1, Value.int p1), (2, Value.int p2), (3, Value.int p3)] [] _ _
            refine x_iconst C (v := 1) (k_dg dt_X11_sheet_1 7 73 (.iconst 1) 1 rfl) (by decide) ?_
            exact x_iret C (by decide) (by decide) (k_dg dt_X11_sheet_1 8 74 (.ireturn) 1 rfl)
          · refine x_bipush C (v := -14) (k_dg dt_X11_sheet_0 29 46 (.bipush (-14)) 2 rfl) (by decide) ?_
            exact x_iret C (by decide) (by decide) (k_dg dt_X11_sheet_0 30 48 (.ireturn) 1 rfl)
        · refine x_iconst C (v := -1) (k_dg dt_X11_sheet_0 25 40 (.iconst (-1)) 1 rfl) (by decide) ?_
          exact x_iret C (by decide) (by decide) (k_dg dt_X11_sheet_0 26 41 (.ireturn) 1 rfl)
theorem c_X11_sheet {Z : k_Z} (hg : k_Gd Z) (l : Launch) (p1 : Int32) (p2 : Int32) (p3 : Int32) (M : k_M) : Con true Z l yX11_sheet cX11_sheet 4 (some .int) 2 0 0 emI [k_ra Z 0, Value.int p1, Value.int p2, Value.int p3] M (f_X11_sheet p1 p2 p3 M) := k_con hg (by decide) (Nat.le_of_ble_eq_true rfl) (fun G hl C => m_X11_sheet_0 C p1 p2 p3 M)
theorem dt_X11_narrowed_0 : k_dec cX11_narrowed [(0, .iload_n 1, 1), (1, .ifCond .ne 7, 3), (4, .iload_n 0, 1), (5, .i2b, 1), (6, .i2l, 1), (7, .lreturn, 1), (8, .iload_n 1, 1), (9, .iconst 1, 1), (10, .if_icmp .ne 9, 3), (13, .iload_n 0, 1), (14, .i2s, 1), (15, .i2l, 1), (16, .goto 5, 3), (19, .iload_n 0, 1), (20, .i2l, 1), (21, .lreturn, 1)] = true := by decide +kernel
def f_X11_narrowed_21 (t0 : Int64) (M : k_M) : Option (Int64 × k_M) := some (t0, M)
theorem m_X11_narrowed_21 {Z : k_Z} {G : k_G} (C : k_C Z G RX11 cX11_narrowed (true, 2, 1, 0, 0) (some .long) "narrowed") (t0 : Int64) (M : k_M) : Sm Z G emJ (true, 2, 1, 0, 0) (0, 0) 21 [] [Value.long t0] M (f_X11_narrowed_21 t0 M) := by
  show Sm Z G emJ _ _ _ _ _ _ (some (t0, M))
  exact x_lret C (by decide) (by decide) (k_dg dt_X11_narrowed_0 15 21 (.lreturn) 1 rfl)
def f_X11_narrowed (p1 : Int32) (p2 : Int32) (M : k_M) : Option (Int64 × k_M) := if p2 = 0 then some (p1.toInt8.toInt32.toInt64, M) else if p2 = 1 then f_X11_narrowed_21 p1.toInt16.toInt32.toInt64 M else f_X11_narrowed_21 p1.toInt64 M
theorem m_X11_narrowed_0 {Z : k_Z} {G : k_G} (C : k_C Z G RX11 cX11_narrowed (true, 2, 1, 0, 0) (some .long) "narrowed") (p1 : Int32) (p2 : Int32) (M : k_M) : Sm Z G emJ (true, 2, 1, 0, 0) (0, 0) 0 [(0, Value.int p1), (1, Value.int p2)] [] M (f_X11_narrowed p1 p2 M) := by
  show Sm Z G emJ _ _ _ _ _ _ (if p2 = 0 then some (p1.toInt8.toInt32.toInt64, M) else if p2 = 1 then f_X11_narrowed_21 p1.toInt16.toInt32.toInt64 M else f_X11_narrowed_21 p1.toInt64 M)
  refine x_iload_n C (k_dg dt_X11_narrowed_0 0 0 (.iload_n 1) 1 rfl) 1 rfl ?_
  refine x_if_ne C (tgt := 8) (k_dg dt_X11_narrowed_0 1 1 (.ifCond .ne 7) 3 rfl) (by decide) (fun _ => ?_) (fun _ => ?_)
  · refine x_iload_n C (k_dg dt_X11_narrowed_0 2 4 (.iload_n 0) 1 rfl) 0 rfl ?_
    refine x_i2b C (k_dg dt_X11_narrowed_0 3 5 (.i2b) 1 rfl) ?_
    refine x_i2l C (k_dg dt_X11_narrowed_0 4 6 (.i2l) 1 rfl) ?_
    exact x_lret C (by decide) (by decide) (k_dg dt_X11_narrowed_0 5 7 (.lreturn) 1 rfl)
  · refine x_iload_n C (k_dg dt_X11_narrowed_0 6 8 (.iload_n 1) 1 rfl) 1 rfl ?_
    refine x_iconst C (v := 1) (k_dg dt_X11_narrowed_0 7 9 (.iconst 1) 1 rfl) (by decide) ?_
    refine x_icmp_ne C (tgt := 19) (k_dg dt_X11_narrowed_0 8 10 (.if_icmp .ne 9) 3 rfl) (by decide) (fun _ => ?_) (fun _ => ?_)
    · refine x_iload_n C (k_dg dt_X11_narrowed_0 9 13 (.iload_n 0) 1 rfl) 0 rfl ?_
      refine x_i2s C (k_dg dt_X11_narrowed_0 10 14 (.i2s) 1 rfl) ?_
      refine x_i2l C (k_dg dt_X11_narrowed_0 11 15 (.i2l) 1 rfl) ?_
      refine x_goto C (tgt := 21) (k_dg dt_X11_narrowed_0 12 16 (.goto 5) 3 rfl) (by decide) ?_
      refine x_lv [] rfl ?_
      exact m_X11_narrowed_21 C p1.toInt16.toInt32.toInt64 M
    · refine x_iload_n C (k_dg dt_X11_narrowed_0 13 19 (.iload_n 0) 1 rfl) 0 rfl ?_
      refine x_i2l C (k_dg dt_X11_narrowed_0 14 20 (.i2l) 1 rfl) ?_
      refine x_lv [] rfl ?_
      exact m_X11_narrowed_21 C p1.toInt64 M
theorem c_X11_narrowed {Z : k_Z} (hg : k_Gd Z) (l : Launch) (p1 : Int32) (p2 : Int32) (M : k_M) : Con true Z l yX11_narrowed cX11_narrowed 2 (some .long) 1 0 0 emJ [Value.int p1, Value.int p2] M (f_X11_narrowed p1 p2 M) := k_con hg (by decide) (Nat.le_of_ble_eq_true rfl) (fun G hl C => m_X11_narrowed_0 C p1 p2 M)
theorem dt_X11_put_0 : k_dec cX11_put [(0, .iload_n 1, 1), (1, .iconst 0, 1), (2, .iconst 3, 1), (3, .invokestatic 95, 3), (6, .ifCond .ne 5, 3), (9, .iconst (-1), 1), (10, .ireturn, 1), (11, .aload_n 0, 1), (12, .getfield 41, 3), (15, .iload_n 1, 1), (16, .iaload, 1), (17, .iconst (-1), 1), (18, .if_icmp .ne 6, 3), (21, .bipush (-11), 2), (23, .ireturn, 1), (24, .iload_n 2, 1), (25, .iconst 0, 1), (26, .aload_n 0, 1), (27, .getfield 44, 3), (30, .iload_n 1, 1), (31, .iaload, 1), (32, .iconst 1, 1), (33, .isub, 1), (34, .invokestatic 95, 3), (37, .ifCond .ne 6, 3), (40, .bipush (-12), 2), (42, .ireturn, 1), (43, .aload_n 0, 1), (44, .getfield 49, 3), (47, .iload_n 1, 1), (48, .aaload, 1), (49, .iload_n 2, 1), (50, .iload_n 3, 1), (51, .aload_n 0, 1), (52, .getfield 41, 3), (55, .iload_n 1, 1), (56, .iaload, 1), (57, .invokestatic 276, 3), (60, .lastore, 1), (61, .iconst 1, 1)] = true := by decide +kernel
theorem dt_X11_put_1 : k_dec cX11_put [(62, .ireturn, 1)] = true := by decide +kernel
def f_X11_put (p1 : Int32) (p2 : Int32) (p3 : Int32) (M : k_M) : Option (Int32 × k_M) := bd (f_X11_within p1 0 3 M) (fun r1 M2 => if r1 = 0 then some (-1, M2) else rdI M2 64 4 p1 (fun v3 => if v3 = (-1) then some (-11, M2) else rdI M2 65 4 p1 (fun v4 => bd (f_X11_within p2 0 (v4 - 1) M2) (fun r5 M6 => if r5 = 0 then some (-12, M6) else rdLL 66 p1 (fun q7 => rdI M6 64 4 p1 (fun v8 => bd (f_X11_narrowed p3 v8 M6) (fun r9 M10 => wrJ M10 q7 40 p2 r9 (fun M11 => some (1, M11)))))))))
theorem m_X11_put_0 {Z : k_Z} {G : k_G} (C : k_C Z G RX11 cX11_put (true, 4, 2, 0, 0) (some .int) "put") (p1 : Int32) (p2 : Int32) (p3 : Int32) (M : k_M) : Sm Z G emI (true, 4, 2, 0, 0) (0, 0) 0 [(0, k_ra Z 0), (1, Value.int p1), (2, Value.int p2), (3, Value.int p3)] [] M (f_X11_put p1 p2 p3 M) := by
  show Sm Z G emI _ _ _ _ _ _ (bd (f_X11_within p1 0 3 M) (fun r1 M2 => if r1 = 0 then some (-1, M2) else rdI M2 64 4 p1 (fun v3 => if v3 = (-1) then some (-11, M2) else rdI M2 65 4 p1 (fun v4 => bd (f_X11_within p2 0 (v4 - 1) M2) (fun r5 M6 => if r5 = 0 then some (-12, M6) else rdLL 66 p1 (fun q7 => rdI M6 64 4 p1 (fun v8 => bd (f_X11_narrowed p3 v8 M6) (fun r9 M10 => wrJ M10 q7 40 p2 r9 (fun M11 => some (1, M11))))))))))
  refine x_iload_n C (k_dg dt_X11_put_0 0 0 (.iload_n 1) 1 rfl) 1 rfl ?_
  refine x_iconst C (v := 0) (k_dg dt_X11_put_0 1 1 (.iconst 0) 1 rfl) (by decide) ?_
  refine x_iconst C (v := 3) (k_dg dt_X11_put_0 2 2 (.iconst 3) 1 rfl) (by decide) ?_
  refine x_callS C (vs := [Value.int p1, Value.int 0, Value.int 3]) (rest := []) (c_X11_within C.2.2.2.2.2.2.2.2.2 G.2.1 p1 0 3 M) cy_X11_within lk_RX11_95 stt_X11_within (by decide) (by decide) (by decide) (by decide) rfl rfl (Nat.le_of_ble_eq_true rfl) (k_dg dt_X11_put_0 3 3 (.invokestatic 95) 3 rfl) (fun r1 M2 => ?_)
  show Sm Z G _ _ _ _ [(0, k_ra Z 0), (1, Value.int p1), (2, Value.int p2), (3, Value.int p3)] [Value.int r1] _ _
  refine x_if_ne C (tgt := 11) (k_dg dt_X11_put_0 4 6 (.ifCond .ne 5) 3 rfl) (by decide) (fun _ => ?_) (fun _ => ?_)
  · refine x_iconst C (v := -1) (k_dg dt_X11_put_0 5 9 (.iconst (-1)) 1 rfl) (by decide) ?_
    exact x_iret C (by decide) (by decide) (k_dg dt_X11_put_0 6 10 (.ireturn) 1 rfl)
  · refine x_aload_n C (k_dg dt_X11_put_0 7 11 (.aload_n 0) 1 rfl) 0 rfl ?_
    refine x_getR C (a := 0) (j := 7) 64 rfl rfl (by decide) fl_RX11_41 rfl rfl rfl (k_dg dt_X11_put_0 8 12 (.getfield 41) 3 rfl) ?_
    refine x_iload_n C (k_dg dt_X11_put_0 9 15 (.iload_n 1) 1 rfl) 1 rfl ?_
    refine x_iald C (a := 64) (n := 4) rfl rfl (k_dg dt_X11_put_0 10 16 (.iaload) 1 rfl) (fun v3 => ?_)
    refine x_iconst C (v := -1) (k_dg dt_X11_put_0 11 17 (.iconst (-1)) 1 rfl) (by decide) ?_
    refine x_icmp_ne C (tgt := 24) (k_dg dt_X11_put_0 12 18 (.if_icmp .ne 6) 3 rfl) (by decide) (fun _ => ?_) (fun _ => ?_)
    · refine x_bipush C (v := -11) (k_dg dt_X11_put_0 13 21 (.bipush (-11)) 2 rfl) (by decide) ?_
      exact x_iret C (by decide) (by decide) (k_dg dt_X11_put_0 14 23 (.ireturn) 1 rfl)
    · refine x_iload_n C (k_dg dt_X11_put_0 15 24 (.iload_n 2) 1 rfl) 2 rfl ?_
      refine x_iconst C (v := 0) (k_dg dt_X11_put_0 16 25 (.iconst 0) 1 rfl) (by decide) ?_
      refine x_aload_n C (k_dg dt_X11_put_0 17 26 (.aload_n 0) 1 rfl) 0 rfl ?_
      refine x_getR C (a := 0) (j := 8) 65 rfl rfl (by decide) fl_RX11_44 rfl rfl rfl (k_dg dt_X11_put_0 18 27 (.getfield 44) 3 rfl) ?_
      refine x_iload_n C (k_dg dt_X11_put_0 19 30 (.iload_n 1) 1 rfl) 1 rfl ?_
      refine x_iald C (a := 65) (n := 4) rfl rfl (k_dg dt_X11_put_0 20 31 (.iaload) 1 rfl) (fun v4 => ?_)
      refine x_iconst C (v := 1) (k_dg dt_X11_put_0 21 32 (.iconst 1) 1 rfl) (by decide) ?_
      refine x_isub C (k_dg dt_X11_put_0 22 33 (.isub) 1 rfl) ?_
      refine x_callS C (vs := [Value.int p2, Value.int 0, Value.int (v4 - 1)]) (rest := []) (c_X11_within C.2.2.2.2.2.2.2.2.2 G.2.1 p2 0 (v4 - 1) M2) cy_X11_within lk_RX11_95 stt_X11_within (by decide) (by decide) (by decide) (by decide) rfl rfl (Nat.le_of_ble_eq_true rfl) (k_dg dt_X11_put_0 23 34 (.invokestatic 95) 3 rfl) (fun r5 M6 => ?_)
      show Sm Z G _ _ _ _ [(0, k_ra Z 0), (1, Value.int p1), (2, Value.int p2), (3, Value.int p3)] [Value.int r5] _ _
      refine x_if_ne C (tgt := 43) (k_dg dt_X11_put_0 24 37 (.ifCond .ne 6) 3 rfl) (by decide) (fun _ => ?_) (fun _ => ?_)
      · refine x_bipush C (v := -12) (k_dg dt_X11_put_0 25 40 (.bipush (-12)) 2 rfl) (by decide) ?_
        exact x_iret C (by decide) (by decide) (k_dg dt_X11_put_0 26 42 (.ireturn) 1 rfl)
      · refine x_aload_n C (k_dg dt_X11_put_0 27 43 (.aload_n 0) 1 rfl) 0 rfl ?_
        refine x_getR C (a := 0) (j := 9) 66 rfl rfl (by decide) fl_RX11_49 rfl rfl rfl (k_dg dt_X11_put_0 28 44 (.getfield 49) 3 rfl) ?_
        refine x_iload_n C (k_dg dt_X11_put_0 29 47 (.iload_n 1) 1 rfl) 1 rfl ?_
        refine x_aall C rfl (k_dg dt_X11_put_0 30 48 (.aaload) 1 rfl) (fun q7 hq7 => ?_)
        refine x_iload_n C (k_dg dt_X11_put_0 31 49 (.iload_n 2) 1 rfl) 2 rfl ?_
        refine x_iload_n C (k_dg dt_X11_put_0 32 50 (.iload_n 3) 1 rfl) 3 rfl ?_
        refine x_aload_n C (k_dg dt_X11_put_0 33 51 (.aload_n 0) 1 rfl) 0 rfl ?_
        refine x_getR C (a := 0) (j := 7) 64 rfl rfl (by decide) fl_RX11_41 rfl rfl rfl (k_dg dt_X11_put_0 34 52 (.getfield 41) 3 rfl) ?_
        refine x_iload_n C (k_dg dt_X11_put_0 35 55 (.iload_n 1) 1 rfl) 1 rfl ?_
        refine x_iald C (a := 64) (n := 4) rfl rfl (k_dg dt_X11_put_0 36 56 (.iaload) 1 rfl) (fun v8 => ?_)
        refine x_callS C (vs := [Value.int p3, Value.int v8]) (rest := [Value.int p2, k_ra Z q7]) (c_X11_narrowed C.2.2.2.2.2.2.2.2.2 G.2.1 p3 v8 M6) cy_X11_narrowed lk_RX11_276 stt_X11_narrowed (by decide) (by decide) (by decide) (by decide) rfl rfl (Nat.le_of_ble_eq_true rfl) (k_dg dt_X11_put_0 37 57 (.invokestatic 276) 3 rfl) (fun r9 M10 => ?_)
        show Sm Z G _ _ _ _ [(0, k_ra Z 0), (1, Value.int p1), (2, Value.int p2), (3, Value.int p3)] [Value.long r9, Value.int p2, k_ra Z q7] _ _
        refine x_last C (a := q7) (n := 40) rfl hq7 (k_dg dt_X11_put_0 38 60 (.lastore) 1 rfl) (fun M11 => ?_)
        refine x_iconst C (v := 1) (k_dg dt_X11_put_0 39 61 (.iconst 1) 1 rfl) (by decide) ?_
        exact x_iret C (by decide) (by decide) (k_dg dt_X11_put_1 0 62 (.ireturn) 1 rfl)
theorem c_X11_put {Z : k_Z} (hg : k_Gd Z) (l : Launch) (p1 : Int32) (p2 : Int32) (p3 : Int32) (M : k_M) : Con true Z l yX11_put cX11_put 4 (some .int) 2 0 0 emI [k_ra Z 0, Value.int p1, Value.int p2, Value.int p3] M (f_X11_put p1 p2 p3 M) := k_con hg (by decide) (Nat.le_of_ble_eq_true rfl) (fun G hl C => m_X11_put_0 C p1 p2 p3 M)
theorem dt_X11_item_0 : k_dec cX11_item [(0, .iload_n 1, 1), (1, .iconst 0, 1), (2, .iconst 3, 1), (3, .invokestatic 95, 3), (6, .ifCond .eq 12, 3), (9, .iload_n 2, 1), (10, .iconst 0, 1), (11, .iconst 3, 1), (12, .invokestatic 95, 3), (15, .ifCond .ne 5, 3), (18, .iconst (-1), 1), (19, .ireturn, 1), (20, .aload_n 0, 1), (21, .getfield 41, 3), (24, .iload_n 1, 1), (25, .iaload, 1), (26, .iconst (-1), 1), (27, .if_icmp .ne 6, 3), (30, .bipush (-11), 2), (32, .ireturn, 1), (33, .aload_n 0, 1), (34, .getfield 41, 3), (37, .iload_n 1, 1), (38, .iaload, 1), (39, .iload_n 2, 1), (40, .if_icmp .eq 6, 3), (43, .bipush (-13), 2), (45, .ireturn, 1), (46, .iload_n 3, 1), (47, .iconst 0, 1), (48, .aload_n 0, 1), (49, .getfield 44, 3), (52, .iload_n 1, 1), (53, .iaload, 1), (54, .iconst 1, 1), (55, .isub, 1), (56, .invokestatic 95, 3), (59, .ifCond .eq 15, 3), (62, .aload_n 0, 1), (63, .getfield 49, 3)] = true := by decide +kernel
theorem dt_X11_item_1 : k_dec cX11_item [(66, .iload_n 1, 1), (67, .aaload, 1), (68, .iload_n 3, 1), (69, .laload, 1), (70, .l2i, 1), (71, .goto 5, 3), (74, .bipush (-12), 2), (76, .ireturn, 1)] = true := by decide +kernel
def f_X11_item (p1 : Int32) (p2 : Int32) (p3 : Int32) (M : k_M) : Option (Int32 × k_M) := bd (f_X11_within p1 0 3 M) (fun r1 M2 => if r1 = 0 then some (-1, M2) else bd (f_X11_within p2 0 3 M2) (fun r3 M4 => if r3 = 0 then some (-1, M4) else rdI M4 64 4 p1 (fun v5 => if v5 = (-1) then some (-11, M4) else rdI M4 64 4 p1 (fun v6 => if v6 = p2 then rdI M4 65 4 p1 (fun v7 => bd (f_X11_within p3 0 (v7 - 1) M4) (fun r8 M9 => if r8 = 0 then some (-12, M9) else rdLL 66 p1 (fun q10 => rdJ M9 q10 40 p3 (fun v11 => some (v11.toInt32, M9))))) else some (-13, M4)))))
theorem m_X11_item_0 {Z : k_Z} {G : k_G} (C : k_C Z G RX11 cX11_item (true, 4, 2, 0, 0) (some .int) "item") (p1 : Int32) (p2 : Int32) (p3 : Int32) (M : k_M) : Sm Z G emI (true, 4, 2, 0, 0) (0, 0) 0 [(0, k_ra Z 0), (1, Value.int p1), (2, Value.int p2), (3, Value.int p3)] [] M (f_X11_item p1 p2 p3 M) := by
  show Sm Z G emI _ _ _ _ _ _ (bd (f_X11_within p1 0 3 M) (fun r1 M2 => if r1 = 0 then some (-1, M2) else bd (f_X11_within p2 0 3 M2) (fun r3 M4 => if r3 = 0 then some (-1, M4) else rdI M4 64 4 p1 (fun v5 => if v5 = (-1) then some (-11, M4) else rdI M4 64 4 p1 (fun v6 => if v6 = p2 then rdI M4 65 4 p1 (fun v7 => bd (f_X11_within p3 0 (v7 - 1) M4) (fun r8 M9 => if r8 = 0 then some (-12, M9) else rdLL 66 p1 (fun q10 => rdJ M9 q10 40 p3 (fun v11 => some (v11.toInt32, M9))))) else some (-13, M4))))))
  refine x_iload_n C (k_dg dt_X11_item_0 0 0 (.iload_n 1) 1 rfl) 1 rfl ?_
  refine x_iconst C (v := 0) (k_dg dt_X11_item_0 1 1 (.iconst 0) 1 rfl) (by decide) ?_
  refine x_iconst C (v := 3) (k_dg dt_X11_item_0 2 2 (.iconst 3) 1 rfl) (by decide) ?_
  refine x_callS C (vs := [Value.int p1, Value.int 0, Value.int 3]) (rest := []) (c_X11_within C.2.2.2.2.2.2.2.2.2 G.2.1 p1 0 3 M) cy_X11_within lk_RX11_95 stt_X11_within (by decide) (by decide) (by decide) (by decide) rfl rfl (Nat.le_of_ble_eq_true rfl) (k_dg dt_X11_item_0 3 3 (.invokestatic 95) 3 rfl) (fun r1 M2 => ?_)
  show Sm Z G _ _ _ _ [(0, k_ra Z 0), (1, Value.int p1), (2, Value.int p2), (3, Value.int p3)] [Value.int r1] _ _
  refine x_if_eq C (tgt := 18) (k_dg dt_X11_item_0 4 6 (.ifCond .eq 12) 3 rfl) (by decide) (fun _ => ?_) (fun _ => ?_)
  · refine x_iconst C (v := -1) (k_dg dt_X11_item_0 10 18 (.iconst (-1)) 1 rfl) (by decide) ?_
    exact x_iret C (by decide) (by decide) (k_dg dt_X11_item_0 11 19 (.ireturn) 1 rfl)
  · refine x_iload_n C (k_dg dt_X11_item_0 5 9 (.iload_n 2) 1 rfl) 2 rfl ?_
    refine x_iconst C (v := 0) (k_dg dt_X11_item_0 6 10 (.iconst 0) 1 rfl) (by decide) ?_
    refine x_iconst C (v := 3) (k_dg dt_X11_item_0 7 11 (.iconst 3) 1 rfl) (by decide) ?_
    refine x_callS C (vs := [Value.int p2, Value.int 0, Value.int 3]) (rest := []) (c_X11_within C.2.2.2.2.2.2.2.2.2 G.2.1 p2 0 3 M2) cy_X11_within lk_RX11_95 stt_X11_within (by decide) (by decide) (by decide) (by decide) rfl rfl (Nat.le_of_ble_eq_true rfl) (k_dg dt_X11_item_0 8 12 (.invokestatic 95) 3 rfl) (fun r3 M4 => ?_)
    show Sm Z G _ _ _ _ [(0, k_ra Z 0), (1, Value.int p1), (2, Value.int p2), (3, Value.int p3)] [Value.int r3] _ _
    refine x_if_ne C (tgt := 20) (k_dg dt_X11_item_0 9 15 (.ifCond .ne 5) 3 rfl) (by decide) (fun _ => ?_) (fun _ => ?_)
    · refine x_iconst C (v := -1) (k_dg dt_X11_item_0 10 18 (.iconst (-1)) 1 rfl) (by decide) ?_
      exact x_iret C (by decide) (by decide) (k_dg dt_X11_item_0 11 19 (.ireturn) 1 rfl)
    · refine x_aload_n C (k_dg dt_X11_item_0 12 20 (.aload_n 0) 1 rfl) 0 rfl ?_
      refine x_getR C (a := 0) (j := 7) 64 rfl rfl (by decide) fl_RX11_41 rfl rfl rfl (k_dg dt_X11_item_0 13 21 (.getfield 41) 3 rfl) ?_
      refine x_iload_n C (k_dg dt_X11_item_0 14 24 (.iload_n 1) 1 rfl) 1 rfl ?_
      refine x_iald C (a := 64) (n := 4) rfl rfl (k_dg dt_X11_item_0 15 25 (.iaload) 1 rfl) (fun v5 => ?_)
      refine x_iconst C (v := -1) (k_dg dt_X11_item_0 16 26 (.iconst (-1)) 1 rfl) (by decide) ?_
      refine x_icmp_ne C (tgt := 33) (k_dg dt_X11_item_0 17 27 (.if_icmp .ne 6) 3 rfl) (by decide) (fun _ => ?_) (fun _ => ?_)
      · refine x_bipush C (v := -11) (k_dg dt_X11_item_0 18 30 (.bipush (-11)) 2 rfl) (by decide) ?_
        exact x_iret C (by decide) (by decide) (k_dg dt_X11_item_0 19 32 (.ireturn) 1 rfl)
      · refine x_aload_n C (k_dg dt_X11_item_0 20 33 (.aload_n 0) 1 rfl) 0 rfl ?_
        refine x_getR C (a := 0) (j := 7) 64 rfl rfl (by decide) fl_RX11_41 rfl rfl rfl (k_dg dt_X11_item_0 21 34 (.getfield 41) 3 rfl) ?_
        refine x_iload_n C (k_dg dt_X11_item_0 22 37 (.iload_n 1) 1 rfl) 1 rfl ?_
        refine x_iald C (a := 64) (n := 4) rfl rfl (k_dg dt_X11_item_0 23 38 (.iaload) 1 rfl) (fun v6 => ?_)
        refine x_iload_n C (k_dg dt_X11_item_0 24 39 (.iload_n 2) 1 rfl) 2 rfl ?_
        refine x_icmp_eq C (tgt := 46) (k_dg dt_X11_item_0 25 40 (.if_icmp .eq 6) 3 rfl) (by decide) (fun _ => ?_) (fun _ => ?_)
        · refine x_iload_n C (k_dg dt_X11_item_0 28 46 (.iload_n 3) 1 rfl) 3 rfl ?_
          refine x_iconst C (v := 0) (k_dg dt_X11_item_0 29 47 (.iconst 0) 1 rfl) (by decide) ?_
          refine x_aload_n C (k_dg dt_X11_item_0 30 48 (.aload_n 0) 1 rfl) 0 rfl ?_
          refine x_getR C (a := 0) (j := 8) 65 rfl rfl (by decide) fl_RX11_44 rfl rfl rfl (k_dg dt_X11_item_0 31 49 (.getfield 44) 3 rfl) ?_
          refine x_iload_n C (k_dg dt_X11_item_0 32 52 (.iload_n 1) 1 rfl) 1 rfl ?_
          refine x_iald C (a := 65) (n := 4) rfl rfl (k_dg dt_X11_item_0 33 53 (.iaload) 1 rfl) (fun v7 => ?_)
          refine x_iconst C (v := 1) (k_dg dt_X11_item_0 34 54 (.iconst 1) 1 rfl) (by decide) ?_
          refine x_isub C (k_dg dt_X11_item_0 35 55 (.isub) 1 rfl) ?_
          refine x_callS C (vs := [Value.int p3, Value.int 0, Value.int (v7 - 1)]) (rest := []) (c_X11_within C.2.2.2.2.2.2.2.2.2 G.2.1 p3 0 (v7 - 1) M4) cy_X11_within lk_RX11_95 stt_X11_within (by decide) (by decide) (by decide) (by decide) rfl rfl (Nat.le_of_ble_eq_true rfl) (k_dg dt_X11_item_0 36 56 (.invokestatic 95) 3 rfl) (fun r8 M9 => ?_)
          show Sm Z G _ _ _ _ [(0, k_ra Z 0), (1, Value.int p1), (2, Value.int p2), (3, Value.int p3)] [Value.int r8] _ _
          refine x_if_eq C (tgt := 74) (k_dg dt_X11_item_0 37 59 (.ifCond .eq 15) 3 rfl) (by decide) (fun _ => ?_) (fun _ => ?_)
          · refine x_bipush C (v := -12) (k_dg dt_X11_item_1 6 74 (.bipush (-12)) 2 rfl) (by decide) ?_
            exact x_iret C (by decide) (by decide) (k_dg dt_X11_item_1 7 76 (.ireturn) 1 rfl)
          · refine x_aload_n C (k_dg dt_X11_item_0 38 62 (.aload_n 0) 1 rfl) 0 rfl ?_
            refine x_getR C (a := 0) (j := 9) 66 rfl rfl (by decide) fl_RX11_49 rfl rfl rfl (k_dg dt_X11_item_0 39 63 (.getfield 49) 3 rfl) ?_
            refine x_iload_n C (k_dg dt_X11_item_1 0 66 (.iload_n 1) 1 rfl) 1 rfl ?_
            refine x_aall C rfl (k_dg dt_X11_item_1 1 67 (.aaload) 1 rfl) (fun q10 hq10 => ?_)
            refine x_iload_n C (k_dg dt_X11_item_1 2 68 (.iload_n 3) 1 rfl) 3 rfl ?_
            refine x_lald C (a := q10) (n := 40) rfl hq10 (k_dg dt_X11_item_1 3 69 (.laload) 1 rfl) (fun v11 => ?_)
            refine x_l2i C (k_dg dt_X11_item_1 4 70 (.l2i) 1 rfl) ?_
            refine x_goto C (tgt := 76) (k_dg dt_X11_item_1 5 71 (.goto 5) 3 rfl) (by decide) ?_
            exact x_iret C (by decide) (by decide) (k_dg dt_X11_item_1 7 76 (.ireturn) 1 rfl)
        · refine x_bipush C (v := -13) (k_dg dt_X11_item_0 26 43 (.bipush (-13)) 2 rfl) (by decide) ?_
          exact x_iret C (by decide) (by decide) (k_dg dt_X11_item_0 27 45 (.ireturn) 1 rfl)
theorem c_X11_item {Z : k_Z} (hg : k_Gd Z) (l : Launch) (p1 : Int32) (p2 : Int32) (p3 : Int32) (M : k_M) : Con true Z l yX11_item cX11_item 4 (some .int) 2 0 0 emI [k_ra Z 0, Value.int p1, Value.int p2, Value.int p3] M (f_X11_item p1 p2 p3 M) := k_con hg (by decide) (Nat.le_of_ble_eq_true rfl) (fun G hl C => m_X11_item_0 C p1 p2 p3 M)
theorem dt_X11_shelveRule_0 : k_dec cX11_shelveRule [(0, .aload_n 0, 1), (1, .getfield 19, 3), (4, .iload_n 2, 1), (5, .invokevirtual 251, 3), (8, .ifnonnull 5, 3), (11, .iconst (-1), 1), (12, .ireturn, 1), (13, .aload_n 0, 1), (14, .getfield 52, 3), (17, .iload_n 1, 1), (18, .iconst 1, 1), (19, .iastore, 1), (20, .aload_n 0, 1), (21, .getfield 55, 3), (24, .iload_n 1, 1), (25, .iload_n 2, 1), (26, .iastore, 1), (27, .iconst 1, 1), (28, .ireturn, 1)] = true := by decide +kernel
def f_X11_shelveRule (p1 : Int32) (p2 : Int32) (M : k_M) : Option (Int32 × k_M) := bd (f_X10_ruleAt 3 p2 M) (fun r1 M2 => nul r1 (some (-1, M2)) (fun a3 => wrI M2 71 4 p1 1 (fun M4 => wrI M4 72 4 p1 p2 (fun M5 => some (1, M5)))))
theorem m_X11_shelveRule_0 {Z : k_Z} {G : k_G} (C : k_C Z G RX11 cX11_shelveRule (true, 3, 2, 0, 0) (some .int) "shelveRule") (p1 : Int32) (p2 : Int32) (M : k_M) : Sm Z G emI (true, 3, 2, 0, 0) (0, 0) 0 [(0, k_ra Z 0), (1, Value.int p1), (2, Value.int p2)] [] M (f_X11_shelveRule p1 p2 M) := by
  show Sm Z G emI _ _ _ _ _ _ (bd (f_X10_ruleAt 3 p2 M) (fun r1 M2 => nul r1 (some (-1, M2)) (fun a3 => wrI M2 71 4 p1 1 (fun M4 => wrI M4 72 4 p1 p2 (fun M5 => some (1, M5))))))
  refine x_aload_n C (k_dg dt_X11_shelveRule_0 0 0 (.aload_n 0) 1 rfl) 0 rfl ?_
  refine x_getR C (a := 0) (j := 1) 3 rfl rfl (by decide) fl_RX11_19 rfl rfl rfl (k_dg dt_X11_shelveRule_0 1 1 (.getfield 19) 3 rfl) ?_
  refine x_iload_n C (k_dg dt_X11_shelveRule_0 2 4 (.iload_n 2) 1 rfl) 2 rfl ?_
  refine x_callV C (a := 3) (kd := 8) (vs := [Value.int p2]) (rest := []) rfl rfl (by decide) (fun r hr => by cases hr; rfl) (c_X10_ruleAt C.2.2.2.2.2.2.2.2.2 G.2.1 3 p2 M isW3) cy_X10_ruleAt lk_RX11_251 im_X10_ruleAt se_X10_ruleAt (by decide) (by decide) (by decide) (by decide) rfl rfl (Nat.le_of_ble_eq_true rfl) (k_dg dt_X11_shelveRule_0 3 5 (.invokevirtual 251) 3 rfl) (fun r1 M2 => ?_)
  show Sm Z G _ _ _ _ [(0, k_ra Z 0), (1, Value.int p1), (2, Value.int p2)] [k_rn Z r1] _ _
  refine x_ifnonnull C (tgt := 13) (k_dg dt_X11_shelveRule_0 4 8 (.ifnonnull 5) 3 rfl) (by decide) (fun hq => ?_) (fun a3 hq => ?_)
  · skip
    refine x_iconst C (v := -1) (k_dg dt_X11_shelveRule_0 5 11 (.iconst (-1)) 1 rfl) (by decide) ?_
    exact x_iret C (by decide) (by decide) (k_dg dt_X11_shelveRule_0 6 12 (.ireturn) 1 rfl)
  · subst hq
    refine x_aload_n C (k_dg dt_X11_shelveRule_0 7 13 (.aload_n 0) 1 rfl) 0 rfl ?_
    refine x_getR C (a := 0) (j := 10) 71 rfl rfl (by decide) fl_RX11_52 rfl rfl rfl (k_dg dt_X11_shelveRule_0 8 14 (.getfield 52) 3 rfl) ?_
    refine x_iload_n C (k_dg dt_X11_shelveRule_0 9 17 (.iload_n 1) 1 rfl) 1 rfl ?_
    refine x_iconst C (v := 1) (k_dg dt_X11_shelveRule_0 10 18 (.iconst 1) 1 rfl) (by decide) ?_
    refine x_iast C (a := 71) (n := 4) rfl rfl (k_dg dt_X11_shelveRule_0 11 19 (.iastore) 1 rfl) (fun M4 => ?_)
    refine x_aload_n C (k_dg dt_X11_shelveRule_0 12 20 (.aload_n 0) 1 rfl) 0 rfl ?_
    refine x_getR C (a := 0) (j := 11) 72 rfl rfl (by decide) fl_RX11_55 rfl rfl rfl (k_dg dt_X11_shelveRule_0 13 21 (.getfield 55) 3 rfl) ?_
    refine x_iload_n C (k_dg dt_X11_shelveRule_0 14 24 (.iload_n 1) 1 rfl) 1 rfl ?_
    refine x_iload_n C (k_dg dt_X11_shelveRule_0 15 25 (.iload_n 2) 1 rfl) 2 rfl ?_
    refine x_iast C (a := 72) (n := 4) rfl rfl (k_dg dt_X11_shelveRule_0 16 26 (.iastore) 1 rfl) (fun M5 => ?_)
    refine x_iconst C (v := 1) (k_dg dt_X11_shelveRule_0 17 27 (.iconst 1) 1 rfl) (by decide) ?_
    exact x_iret C (by decide) (by decide) (k_dg dt_X11_shelveRule_0 18 28 (.ireturn) 1 rfl)
theorem c_X11_shelveRule {Z : k_Z} (hg : k_Gd Z) (l : Launch) (p1 : Int32) (p2 : Int32) (M : k_M) : Con true Z l yX11_shelveRule cX11_shelveRule 3 (some .int) 2 0 0 emI [k_ra Z 0, Value.int p1, Value.int p2] M (f_X11_shelveRule p1 p2 M) := k_con hg (by decide) (Nat.le_of_ble_eq_true rfl) (fun G hl C => m_X11_shelveRule_0 C p1 p2 M)
theorem dt_X11_shelveSheet_0 : k_dec cX11_shelveSheet [(0, .iload_n 2, 1), (1, .iconst 0, 1), (2, .iconst 3, 1), (3, .invokestatic 95, 3), (6, .ifCond .ne 5, 3), (9, .iconst (-1), 1), (10, .ireturn, 1), (11, .aload_n 0, 1), (12, .getfield 52, 3), (15, .iload_n 1, 1), (16, .aload_n 0, 1), (17, .getfield 41, 3), (20, .iload_n 2, 1), (21, .iaload, 1), (22, .iconst (-1), 1), (23, .if_icmp .ne 7, 3), (26, .iconst 0, 1), (27, .goto 4, 3), (30, .iconst 2, 1), (31, .iastore, 1), (32, .aload_n 0, 1), (33, .getfield 55, 3), (36, .iload_n 1, 1), (37, .aload_n 0, 1), (38, .getfield 41, 3), (41, .iload_n 2, 1), (42, .iaload, 1), (43, .iastore, 1), (44, .aload_n 0, 1), (45, .getfield 58, 3), (48, .iload_n 1, 1), (49, .aload_n 0, 1), (50, .getfield 44, 3), (53, .iload_n 2, 1), (54, .iaload, 1), (55, .iastore, 1), (56, .iconst 1, 1), (57, .ireturn, 1)] = true := by decide +kernel
def f_X11_shelveSheet_31 (l1 : Int32) (l2 : Int32) (t1 : Int32) (t2 : Int32) (M : k_M) : Option (Int32 × k_M) := wrI M 71 4 t1 t2 (fun M1 => rdI M1 64 4 l2 (fun v2 => wrI M1 72 4 l1 v2 (fun M3 => rdI M3 65 4 l2 (fun v4 => wrI M3 73 4 l1 v4 (fun M5 => some (1, M5))))))
theorem m_X11_shelveSheet_31 {Z : k_Z} {G : k_G} (C : k_C Z G RX11 cX11_shelveSheet (true, 3, 2, 0, 0) (some .int) "shelveSheet") (l1 : Int32) (l2 : Int32) (t1 : Int32) (t2 : Int32) (M : k_M) : Sm Z G emI (true, 3, 2, 0, 0) (0, 0) 31 [(0, k_ra Z 0), (1, Value.int l1), (2, Value.int l2)] [Value.int t2, Value.int t1, k_ra Z 71] M (f_X11_shelveSheet_31 l1 l2 t1 t2 M) := by
  show Sm Z G emI _ _ _ _ _ _ (wrI M 71 4 t1 t2 (fun M1 => rdI M1 64 4 l2 (fun v2 => wrI M1 72 4 l1 v2 (fun M3 => rdI M3 65 4 l2 (fun v4 => wrI M3 73 4 l1 v4 (fun M5 => some (1, M5)))))))
  refine x_iast C (a := 71) (n := 4) rfl rfl (k_dg dt_X11_shelveSheet_0 19 31 (.iastore) 1 rfl) (fun M1 => ?_)
  refine x_aload_n C (k_dg dt_X11_shelveSheet_0 20 32 (.aload_n 0) 1 rfl) 0 rfl ?_
  refine x_getR C (a := 0) (j := 11) 72 rfl rfl (by decide) fl_RX11_55 rfl rfl rfl (k_dg dt_X11_shelveSheet_0 21 33 (.getfield 55) 3 rfl) ?_
  refine x_iload_n C (k_dg dt_X11_shelveSheet_0 22 36 (.iload_n 1) 1 rfl) 1 rfl ?_
  refine x_aload_n C (k_dg dt_X11_shelveSheet_0 23 37 (.aload_n 0) 1 rfl) 0 rfl ?_
  refine x_getR C (a := 0) (j := 7) 64 rfl rfl (by decide) fl_RX11_41 rfl rfl rfl (k_dg dt_X11_shelveSheet_0 24 38 (.getfield 41) 3 rfl) ?_
  refine x_iload_n C (k_dg dt_X11_shelveSheet_0 25 41 (.iload_n 2) 1 rfl) 2 rfl ?_
  refine x_iald C (a := 64) (n := 4) rfl rfl (k_dg dt_X11_shelveSheet_0 26 42 (.iaload) 1 rfl) (fun v2 => ?_)
  refine x_iast C (a := 72) (n := 4) rfl rfl (k_dg dt_X11_shelveSheet_0 27 43 (.iastore) 1 rfl) (fun M3 => ?_)
  refine x_aload_n C (k_dg dt_X11_shelveSheet_0 28 44 (.aload_n 0) 1 rfl) 0 rfl ?_
  refine x_getR C (a := 0) (j := 12) 73 rfl rfl (by decide) fl_RX11_58 rfl rfl rfl (k_dg dt_X11_shelveSheet_0 29 45 (.getfield 58) 3 rfl) ?_
  refine x_iload_n C (k_dg dt_X11_shelveSheet_0 30 48 (.iload_n 1) 1 rfl) 1 rfl ?_
  refine x_aload_n C (k_dg dt_X11_shelveSheet_0 31 49 (.aload_n 0) 1 rfl) 0 rfl ?_
  refine x_getR C (a := 0) (j := 8) 65 rfl rfl (by decide) fl_RX11_44 rfl rfl rfl (k_dg dt_X11_shelveSheet_0 32 50 (.getfield 44) 3 rfl) ?_
  refine x_iload_n C (k_dg dt_X11_shelveSheet_0 33 53 (.iload_n 2) 1 rfl) 2 rfl ?_
  refine x_iald C (a := 65) (n := 4) rfl rfl (k_dg dt_X11_shelveSheet_0 34 54 (.iaload) 1 rfl) (fun v4 => ?_)
  refine x_iast C (a := 73) (n := 4) rfl rfl (k_dg dt_X11_shelveSheet_0 35 55 (.iastore) 1 rfl) (fun M5 => ?_)
  refine x_iconst C (v := 1) (k_dg dt_X11_shelveSheet_0 36 56 (.iconst 1) 1 rfl) (by decide) ?_
  exact x_iret C (by decide) (by decide) (k_dg dt_X11_shelveSheet_0 37 57 (.ireturn) 1 rfl)
def f_X11_shelveSheet (p1 : Int32) (p2 : Int32) (M : k_M) : Option (Int32 × k_M) := bd (f_X11_within p2 0 3 M) (fun r1 M2 => if r1 = 0 then some (-1, M2) else rdI M2 64 4 p2 (fun v3 => if v3 = (-1) then f_X11_shelveSheet_31 p1 p2 p1 0 M2 else f_X11_shelveSheet_31 p1 p2 p1 2 M2))
theorem m_X11_shelveSheet_0 {Z : k_Z} {G : k_G} (C : k_C Z G RX11 cX11_shelveSheet (true, 3, 2, 0, 0) (some .int) "shelveSheet") (p1 : Int32) (p2 : Int32) (M : k_M) : Sm Z G emI (true, 3, 2, 0, 0) (0, 0) 0 [(0, k_ra Z 0), (1, Value.int p1), (2, Value.int p2)] [] M (f_X11_shelveSheet p1 p2 M) := by
  show Sm Z G emI _ _ _ _ _ _ (bd (f_X11_within p2 0 3 M) (fun r1 M2 => if r1 = 0 then some (-1, M2) else rdI M2 64 4 p2 (fun v3 => if v3 = (-1) then f_X11_shelveSheet_31 p1 p2 p1 0 M2 else f_X11_shelveSheet_31 p1 p2 p1 2 M2)))
  refine x_iload_n C (k_dg dt_X11_shelveSheet_0 0 0 (.iload_n 2) 1 rfl) 2 rfl ?_
  refine x_iconst C (v := 0) (k_dg dt_X11_shelveSheet_0 1 1 (.iconst 0) 1 rfl) (by decide) ?_
  refine x_iconst C (v := 3) (k_dg dt_X11_shelveSheet_0 2 2 (.iconst 3) 1 rfl) (by decide) ?_
  refine x_callS C (vs := [Value.int p2, Value.int 0, Value.int 3]) (rest := []) (c_X11_within C.2.2.2.2.2.2.2.2.2 G.2.1 p2 0 3 M) cy_X11_within lk_RX11_95 stt_X11_within (by decide) (by decide) (by decide) (by decide) rfl rfl (Nat.le_of_ble_eq_true rfl) (k_dg dt_X11_shelveSheet_0 3 3 (.invokestatic 95) 3 rfl) (fun r1 M2 => ?_)
  show Sm Z G _ _ _ _ [(0, k_ra Z 0), (1, Value.int p1), (2, Value.int p2)] [Value.int r1] _ _
  refine x_if_ne C (tgt := 11) (k_dg dt_X11_shelveSheet_0 4 6 (.ifCond .ne 5) 3 rfl) (by decide) (fun _ => ?_) (fun _ => ?_)
  · refine x_iconst C (v := -1) (k_dg dt_X11_shelveSheet_0 5 9 (.iconst (-1)) 1 rfl) (by decide) ?_
    exact x_iret C (by decide) (by decide) (k_dg dt_X11_shelveSheet_0 6 10 (.ireturn) 1 rfl)
  · refine x_aload_n C (k_dg dt_X11_shelveSheet_0 7 11 (.aload_n 0) 1 rfl) 0 rfl ?_
    refine x_getR C (a := 0) (j := 10) 71 rfl rfl (by decide) fl_RX11_52 rfl rfl rfl (k_dg dt_X11_shelveSheet_0 8 12 (.getfield 52) 3 rfl) ?_
    refine x_iload_n C (k_dg dt_X11_shelveSheet_0 9 15 (.iload_n 1) 1 rfl) 1 rfl ?_
    refine x_aload_n C (k_dg dt_X11_shelveSheet_0 10 16 (.aload_n 0) 1 rfl) 0 rfl ?_
    refine x_getR C (a := 0) (j := 7) 64 rfl rfl (by decide) fl_RX11_41 rfl rfl rfl (k_dg dt_X11_shelveSheet_0 11 17 (.getfield 41) 3 rfl) ?_
    refine x_iload_n C (k_dg dt_X11_shelveSheet_0 12 20 (.iload_n 2) 1 rfl) 2 rfl ?_
    refine x_iald C (a := 64) (n := 4) rfl rfl (k_dg dt_X11_shelveSheet_0 13 21 (.iaload) 1 rfl) (fun v3 => ?_)
    refine x_iconst C (v := -1) (k_dg dt_X11_shelveSheet_0 14 22 (.iconst (-1)) 1 rfl) (by decide) ?_
    refine x_icmp_ne C (tgt := 30) (k_dg dt_X11_shelveSheet_0 15 23 (.if_icmp .ne 7) 3 rfl) (by decide) (fun _ => ?_) (fun _ => ?_)
    · refine x_iconst C (v := 0) (k_dg dt_X11_shelveSheet_0 16 26 (.iconst 0) 1 rfl) (by decide) ?_
      refine x_goto C (tgt := 31) (k_dg dt_X11_shelveSheet_0 17 27 (.goto 4) 3 rfl) (by decide) ?_
      exact m_X11_shelveSheet_31 C p1 p2 p1 0 M2
    · refine x_iconst C (v := 2) (k_dg dt_X11_shelveSheet_0 18 30 (.iconst 2) 1 rfl) (by decide) ?_
      exact m_X11_shelveSheet_31 C p1 p2 p1 2 M2
theorem c_X11_shelveSheet {Z : k_Z} (hg : k_Gd Z) (l : Launch) (p1 : Int32) (p2 : Int32) (M : k_M) : Con true Z l yX11_shelveSheet cX11_shelveSheet 3 (some .int) 2 0 0 emI [k_ra Z 0, Value.int p1, Value.int p2] M (f_X11_shelveSheet p1 p2 M) := k_con hg (by decide) (Nat.le_of_ble_eq_true rfl) (fun G hl C => m_X11_shelveSheet_0 C p1 p2 M)
theorem dt_X11_shelf_0 : k_dec cX11_shelf [(0, .iload_n 1, 1), (1, .iconst 0, 1), (2, .iconst 3, 1), (3, .invokestatic 95, 3), (6, .ifCond .eq 12, 3), (9, .iload_n 2, 1), (10, .iconst 0, 1), (11, .iconst 2, 1), (12, .invokestatic 95, 3), (15, .ifCond .ne 5, 3), (18, .iconst (-1), 1), (19, .ireturn, 1), (20, .iload_n 2, 1), (21, .ifCond .ne 10, 3), (24, .aload_n 0, 1), (25, .iload_n 1, 1), (26, .iload_n 3, 1), (27, .invokevirtual 280, 3), (30, .ireturn, 1), (31, .iload_n 2, 1), (32, .iconst 1, 1), (33, .if_icmp .ne 10, 3), (36, .aload_n 0, 1), (37, .iload_n 1, 1), (38, .iload_n 3, 1), (39, .invokevirtual 283, 3), (42, .ireturn, 1), (43, .aload_n 0, 1), (44, .getfield 52, 3), (47, .iload_n 1, 1), (48, .iconst 0, 1), (49, .iastore, 1), (50, .iconst 1, 1), (51, .ireturn, 1)] = true := by decide +kernel
def f_X11_shelf (p1 : Int32) (p2 : Int32) (p3 : Int32) (M : k_M) : Option (Int32 × k_M) := bd (f_X11_within p1 0 3 M) (fun r1 M2 => if r1 = 0 then some (-1, M2) else bd (f_X11_within p2 0 2 M2) (fun r3 M4 => if r3 = 0 then some (-1, M4) else if p2 = 0 then bd (f_X11_shelveRule p1 p3 M4) (fun r8 M9 => some (r8, M9)) else if p2 = 1 then bd (f_X11_shelveSheet p1 p3 M4) (fun r6 M7 => some (r6, M7)) else wrI M4 71 4 p1 0 (fun M5 => some (1, M5))))
theorem m_X11_shelf_0 {Z : k_Z} {G : k_G} (C : k_C Z G RX11 cX11_shelf (true, 4, 3, 0, 0) (some .int) "shelf") (p1 : Int32) (p2 : Int32) (p3 : Int32) (M : k_M) : Sm Z G emI (true, 4, 3, 0, 0) (0, 0) 0 [(0, k_ra Z 0), (1, Value.int p1), (2, Value.int p2), (3, Value.int p3)] [] M (f_X11_shelf p1 p2 p3 M) := by
  show Sm Z G emI _ _ _ _ _ _ (bd (f_X11_within p1 0 3 M) (fun r1 M2 => if r1 = 0 then some (-1, M2) else bd (f_X11_within p2 0 2 M2) (fun r3 M4 => if r3 = 0 then some (-1, M4) else if p2 = 0 then bd (f_X11_shelveRule p1 p3 M4) (fun r8 M9 => some (r8, M9)) else if p2 = 1 then bd (f_X11_shelveSheet p1 p3 M4) (fun r6 M7 => some (r6, M7)) else wrI M4 71 4 p1 0 (fun M5 => some (1, M5)))))
  refine x_iload_n C (k_dg dt_X11_shelf_0 0 0 (.iload_n 1) 1 rfl) 1 rfl ?_
  refine x_iconst C (v := 0) (k_dg dt_X11_shelf_0 1 1 (.iconst 0) 1 rfl) (by decide) ?_
  refine x_iconst C (v := 3) (k_dg dt_X11_shelf_0 2 2 (.iconst 3) 1 rfl) (by decide) ?_
  refine x_callS C (vs := [Value.int p1, Value.int 0, Value.int 3]) (rest := []) (c_X11_within C.2.2.2.2.2.2.2.2.2 G.2.1 p1 0 3 M) cy_X11_within lk_RX11_95 stt_X11_within (by decide) (by decide) (by decide) (by decide) rfl rfl (Nat.le_of_ble_eq_true rfl) (k_dg dt_X11_shelf_0 3 3 (.invokestatic 95) 3 rfl) (fun r1 M2 => ?_)
  show Sm Z G _ _ _ _ [(0, k_ra Z 0), (1, Value.int p1), (2, Value.int p2), (3, Value.int p3)] [Value.int r1] _ _
  refine x_if_eq C (tgt := 18) (k_dg dt_X11_shelf_0 4 6 (.ifCond .eq 12) 3 rfl) (by decide) (fun _ => ?_) (fun _ => ?_)
  · refine x_iconst C (v := -1) (k_dg dt_X11_shelf_0 10 18 (.iconst (-1)) 1 rfl) (by decide) ?_
    exact x_iret C (by decide) (by decide) (k_dg dt_X11_shelf_0 11 19 (.ireturn) 1 rfl)
  · refine x_iload_n C (k_dg dt_X11_shelf_0 5 9 (.iload_n 2) 1 rfl) 2 rfl ?_
    refine x_iconst C (v := 0) (k_dg dt_X11_shelf_0 6 10 (.iconst 0) 1 rfl) (by decide) ?_
    refine x_iconst C (v := 2) (k_dg dt_X11_shelf_0 7 11 (.iconst 2) 1 rfl) (by decide) ?_
    refine x_callS C (vs := [Value.int p2, Value.int 0, Value.int 2]) (rest := []) (c_X11_within C.2.2.2.2.2.2.2.2.2 G.2.1 p2 0 2 M2) cy_X11_within lk_RX11_95 stt_X11_within (by decide) (by decide) (by decide) (by decide) rfl rfl (Nat.le_of_ble_eq_true rfl) (k_dg dt_X11_shelf_0 8 12 (.invokestatic 95) 3 rfl) (fun r3 M4 => ?_)
    show Sm Z G _ _ _ _ [(0, k_ra Z 0), (1, Value.int p1), (2, Value.int p2), (3, Value.int p3)] [Value.int r3] _ _
    refine x_if_ne C (tgt := 20) (k_dg dt_X11_shelf_0 9 15 (.ifCond .ne 5) 3 rfl) (by decide) (fun _ => ?_) (fun _ => ?_)
    · refine x_iconst C (v := -1) (k_dg dt_X11_shelf_0 10 18 (.iconst (-1)) 1 rfl) (by decide) ?_
      exact x_iret C (by decide) (by decide) (k_dg dt_X11_shelf_0 11 19 (.ireturn) 1 rfl)
    · refine x_iload_n C (k_dg dt_X11_shelf_0 12 20 (.iload_n 2) 1 rfl) 2 rfl ?_
      refine x_if_ne C (tgt := 31) (k_dg dt_X11_shelf_0 13 21 (.ifCond .ne 10) 3 rfl) (by decide) (fun _ => ?_) (fun _ => ?_)
      · refine x_aload_n C (k_dg dt_X11_shelf_0 14 24 (.aload_n 0) 1 rfl) 0 rfl ?_
        refine x_iload_n C (k_dg dt_X11_shelf_0 15 25 (.iload_n 1) 1 rfl) 1 rfl ?_
        refine x_iload_n C (k_dg dt_X11_shelf_0 16 26 (.iload_n 3) 1 rfl) 3 rfl ?_
        refine x_callV C (a := 0) (kd := 9) (vs := [Value.int p1, Value.int p3]) (rest := []) rfl rfl (by decide) (fun r hr => by cases hr; rfl) (c_X11_shelveRule C.2.2.2.2.2.2.2.2.2 G.2.1 p1 p3 M4) cy_X11_shelveRule lk_RX11_280 im_X11_shelveRule se_X11_shelveRule (by decide) (by decide) (by decide) (by decide) rfl rfl (Nat.le_of_ble_eq_true rfl) (k_dg dt_X11_shelf_0 17 27 (.invokevirtual 280) 3 rfl) (fun r8 M9 => ?_)
        show Sm Z G _ _ _ _ [(0, k_ra Z 0), (1, Value.int p1), (2, Value.int p2), (3, Value.int p3)] [Value.int r8] _ _
        exact x_iret C (by decide) (by decide) (k_dg dt_X11_shelf_0 18 30 (.ireturn) 1 rfl)
      · refine x_iload_n C (k_dg dt_X11_shelf_0 19 31 (.iload_n 2) 1 rfl) 2 rfl ?_
        refine x_iconst C (v := 1) (k_dg dt_X11_shelf_0 20 32 (.iconst 1) 1 rfl) (by decide) ?_
        refine x_icmp_ne C (tgt := 43) (k_dg dt_X11_shelf_0 21 33 (.if_icmp .ne 10) 3 rfl) (by decide) (fun _ => ?_) (fun _ => ?_)
        · refine x_aload_n C (k_dg dt_X11_shelf_0 22 36 (.aload_n 0) 1 rfl) 0 rfl ?_
          refine x_iload_n C (k_dg dt_X11_shelf_0 23 37 (.iload_n 1) 1 rfl) 1 rfl ?_
          refine x_iload_n C (k_dg dt_X11_shelf_0 24 38 (.iload_n 3) 1 rfl) 3 rfl ?_
          refine x_callV C (a := 0) (kd := 9) (vs := [Value.int p1, Value.int p3]) (rest := []) rfl rfl (by decide) (fun r hr => by cases hr; rfl) (c_X11_shelveSheet C.2.2.2.2.2.2.2.2.2 G.2.1 p1 p3 M4) cy_X11_shelveSheet lk_RX11_283 im_X11_shelveSheet se_X11_shelveSheet (by decide) (by decide) (by decide) (by decide) rfl rfl (Nat.le_of_ble_eq_true rfl) (k_dg dt_X11_shelf_0 25 39 (.invokevirtual 283) 3 rfl) (fun r6 M7 => ?_)
          show Sm Z G _ _ _ _ [(0, k_ra Z 0), (1, Value.int p1), (2, Value.int p2), (3, Value.int p3)] [Value.int r6] _ _
          exact x_iret C (by decide) (by decide) (k_dg dt_X11_shelf_0 26 42 (.ireturn) 1 rfl)
        · refine x_aload_n C (k_dg dt_X11_shelf_0 27 43 (.aload_n 0) 1 rfl) 0 rfl ?_
          refine x_getR C (a := 0) (j := 10) 71 rfl rfl (by decide) fl_RX11_52 rfl rfl rfl (k_dg dt_X11_shelf_0 28 44 (.getfield 52) 3 rfl) ?_
          refine x_iload_n C (k_dg dt_X11_shelf_0 29 47 (.iload_n 1) 1 rfl) 1 rfl ?_
          refine x_iconst C (v := 0) (k_dg dt_X11_shelf_0 30 48 (.iconst 0) 1 rfl) (by decide) ?_
          refine x_iast C (a := 71) (n := 4) rfl rfl (k_dg dt_X11_shelf_0 31 49 (.iastore) 1 rfl) (fun M5 => ?_)
          refine x_iconst C (v := 1) (k_dg dt_X11_shelf_0 32 50 (.iconst 1) 1 rfl) (by decide) ?_
          exact x_iret C (by decide) (by decide) (k_dg dt_X11_shelf_0 33 51 (.ireturn) 1 rfl)
theorem c_X11_shelf {Z : k_Z} (hg : k_Gd Z) (l : Launch) (p1 : Int32) (p2 : Int32) (p3 : Int32) (M : k_M) : Con true Z l yX11_shelf cX11_shelf 4 (some .int) 3 0 0 emI [k_ra Z 0, Value.int p1, Value.int p2, Value.int p3] M (f_X11_shelf p1 p2 p3 M) := k_con hg (by decide) (Nat.le_of_ble_eq_true rfl) (fun G hl C => m_X11_shelf_0 C p1 p2 p3 M)
theorem dt_X11_ruleOn_0 : k_dec cX11_ruleOn [(0, .iload_n 1, 1), (1, .iconst 0, 1), (2, .iconst 3, 1), (3, .invokestatic 95, 3), (6, .ifCond .eq 13, 3), (9, .aload_n 0, 1), (10, .getfield 52, 3), (13, .iload_n 1, 1), (14, .iaload, 1), (15, .iconst 1, 1), (16, .if_icmp .eq 5, 3), (19, .aconst_null, 1), (20, .areturn, 1), (21, .aload_n 0, 1), (22, .getfield 19, 3), (25, .aload_n 0, 1), (26, .getfield 55, 3), (29, .iload_n 1, 1), (30, .iaload, 1), (31, .invokevirtual 251, 3), (34, .areturn, 1)] = true := by decide +kernel
def f_X11_ruleOn_19 (M : k_M) : Option (Option Nat × k_M) := some (none, M)
theorem m_X11_ruleOn_19 {Z : k_Z} {G : k_G} (C : k_C Z G RX11 cX11_ruleOn (true, 2, 2, 0, 0) (some (.object "WheelCity$Rule")) "ruleOn") (M : k_M) : Sm Z G (emR Z) (true, 2, 2, 0, 0) (0, 0) 19 [] [] M (f_X11_ruleOn_19 M) := by
  show Sm Z G (emR Z) _ _ _ _ _ _ (some (none, M))
  refine x_null C (k_dg dt_X11_ruleOn_0 11 19 (.aconst_null) 1 rfl) ?_
  exact x_aret C (by decide) (by decide) (k_dg dt_X11_ruleOn_0 12 20 (.areturn) 1 rfl)
def f_X11_ruleOn (p1 : Int32) (M : k_M) : Option (Option Nat × k_M) := bd (f_X11_within p1 0 3 M) (fun r1 M2 => if r1 = 0 then f_X11_ruleOn_19 M2 else rdI M2 71 4 p1 (fun v3 => if v3 = 1 then rdI M2 72 4 p1 (fun v4 => bd (f_X10_ruleAt 3 v4 M2) (fun r5 M6 => some (r5, M6))) else f_X11_ruleOn_19 M2))
theorem m_X11_ruleOn_0 {Z : k_Z} {G : k_G} (C : k_C Z G RX11 cX11_ruleOn (true, 2, 2, 0, 0) (some (.object "WheelCity$Rule")) "ruleOn") (p1 : Int32) (M : k_M) : Sm Z G (emR Z) (true, 2, 2, 0, 0) (0, 0) 0 [(0, k_ra Z 0), (1, Value.int p1)] [] M (f_X11_ruleOn p1 M) := by
  show Sm Z G (emR Z) _ _ _ _ _ _ (bd (f_X11_within p1 0 3 M) (fun r1 M2 => if r1 = 0 then f_X11_ruleOn_19 M2 else rdI M2 71 4 p1 (fun v3 => if v3 = 1 then rdI M2 72 4 p1 (fun v4 => bd (f_X10_ruleAt 3 v4 M2) (fun r5 M6 => some (r5, M6))) else f_X11_ruleOn_19 M2)))
  refine x_iload_n C (k_dg dt_X11_ruleOn_0 0 0 (.iload_n 1) 1 rfl) 1 rfl ?_
  refine x_iconst C (v := 0) (k_dg dt_X11_ruleOn_0 1 1 (.iconst 0) 1 rfl) (by decide) ?_
  refine x_iconst C (v := 3) (k_dg dt_X11_ruleOn_0 2 2 (.iconst 3) 1 rfl) (by decide) ?_
  refine x_callS C (vs := [Value.int p1, Value.int 0, Value.int 3]) (rest := []) (c_X11_within C.2.2.2.2.2.2.2.2.2 G.2.1 p1 0 3 M) cy_X11_within lk_RX11_95 stt_X11_within (by decide) (by decide) (by decide) (by decide) rfl rfl (Nat.le_of_ble_eq_true rfl) (k_dg dt_X11_ruleOn_0 3 3 (.invokestatic 95) 3 rfl) (fun r1 M2 => ?_)
  show Sm Z G _ _ _ _ [(0, k_ra Z 0), (1, Value.int p1)] [Value.int r1] _ _
  refine x_if_eq C (tgt := 19) (k_dg dt_X11_ruleOn_0 4 6 (.ifCond .eq 13) 3 rfl) (by decide) (fun _ => ?_) (fun _ => ?_)
  · refine x_lv [] rfl ?_
    exact m_X11_ruleOn_19 C M2
  · refine x_aload_n C (k_dg dt_X11_ruleOn_0 5 9 (.aload_n 0) 1 rfl) 0 rfl ?_
    refine x_getR C (a := 0) (j := 10) 71 rfl rfl (by decide) fl_RX11_52 rfl rfl rfl (k_dg dt_X11_ruleOn_0 6 10 (.getfield 52) 3 rfl) ?_
    refine x_iload_n C (k_dg dt_X11_ruleOn_0 7 13 (.iload_n 1) 1 rfl) 1 rfl ?_
    refine x_iald C (a := 71) (n := 4) rfl rfl (k_dg dt_X11_ruleOn_0 8 14 (.iaload) 1 rfl) (fun v3 => ?_)
    refine x_iconst C (v := 1) (k_dg dt_X11_ruleOn_0 9 15 (.iconst 1) 1 rfl) (by decide) ?_
    refine x_icmp_eq C (tgt := 21) (k_dg dt_X11_ruleOn_0 10 16 (.if_icmp .eq 5) 3 rfl) (by decide) (fun _ => ?_) (fun _ => ?_)
    · refine x_aload_n C (k_dg dt_X11_ruleOn_0 13 21 (.aload_n 0) 1 rfl) 0 rfl ?_
      refine x_getR C (a := 0) (j := 1) 3 rfl rfl (by decide) fl_RX11_19 rfl rfl rfl (k_dg dt_X11_ruleOn_0 14 22 (.getfield 19) 3 rfl) ?_
      refine x_aload_n C (k_dg dt_X11_ruleOn_0 15 25 (.aload_n 0) 1 rfl) 0 rfl ?_
      refine x_getR C (a := 0) (j := 11) 72 rfl rfl (by decide) fl_RX11_55 rfl rfl rfl (k_dg dt_X11_ruleOn_0 16 26 (.getfield 55) 3 rfl) ?_
      refine x_iload_n C (k_dg dt_X11_ruleOn_0 17 29 (.iload_n 1) 1 rfl) 1 rfl ?_
      refine x_iald C (a := 72) (n := 4) rfl rfl (k_dg dt_X11_ruleOn_0 18 30 (.iaload) 1 rfl) (fun v4 => ?_)
      refine x_callV C (a := 3) (kd := 8) (vs := [Value.int v4]) (rest := []) rfl rfl (by decide) (fun r hr => by cases hr; rfl) (c_X10_ruleAt C.2.2.2.2.2.2.2.2.2 G.2.1 3 v4 M2 isW3) cy_X10_ruleAt lk_RX11_251 im_X10_ruleAt se_X10_ruleAt (by decide) (by decide) (by decide) (by decide) rfl rfl (Nat.le_of_ble_eq_true rfl) (k_dg dt_X11_ruleOn_0 19 31 (.invokevirtual 251) 3 rfl) (fun r5 M6 => ?_)
      show Sm Z G _ _ _ _ [(0, k_ra Z 0), (1, Value.int p1)] [k_rn Z r5] _ _
      exact x_aret C (by decide) (by decide) (k_dg dt_X11_ruleOn_0 20 34 (.areturn) 1 rfl)
    · refine x_lv [] rfl ?_
      exact m_X11_ruleOn_19 C M2
theorem c_X11_ruleOn {Z : k_Z} (hg : k_Gd Z) (l : Launch) (p1 : Int32) (M : k_M) : Con true Z l yX11_ruleOn cX11_ruleOn 2 (some (.object "WheelCity$Rule")) 2 0 0 (emR Z) [k_ra Z 0, Value.int p1] M (f_X11_ruleOn p1 M) := k_con hg (by decide) (Nat.le_of_ble_eq_true rfl) (fun G hl C => m_X11_ruleOn_0 C p1 M)
theorem dt_X11_taken_0 : k_dec cX11_taken [(0, .iload_n 2, 1), (1, .bipush 10, 2), (3, .bipush 13, 2), (5, .invokestatic 95, 3), (8, .istore_n 3, 1), (9, .iload_n 1, 1), (10, .iconst 0, 1), (11, .iconst 3, 1), (12, .invokestatic 95, 3), (15, .ifCond .eq 16, 3), (18, .iload_n 3, 1), (19, .ifCond .ne 14, 3), (22, .iload_n 2, 1), (23, .iconst 0, 1), (24, .iconst 5, 1), (25, .invokestatic 95, 3), (28, .ifCond .ne 5, 3), (31, .iconst (-1), 1), (32, .ireturn, 1), (33, .aload_n 0, 1), (34, .getfield 52, 3), (37, .iload_n 1, 1), (38, .iaload, 1), (39, .iconst 2, 1), (40, .if_icmp .ne 32, 3), (43, .iload_n 3, 1), (44, .ifCond .eq 25, 3), (47, .aload_n 0, 1), (48, .getfield 55, 3), (51, .iload_n 1, 1), (52, .iaload, 1), (53, .iload_n 2, 1), (54, .bipush 10, 2), (56, .isub, 1), (57, .if_icmp .ne 12, 3), (60, .aload_n 0, 1), (61, .getfield 58, 3), (64, .iload_n 1, 1), (65, .iaload, 1), (66, .goto 5, 3)] = true := by decide +kernel
theorem dt_X11_taken_1 : k_dec cX11_taken [(69, .bipush (-13), 2), (71, .ireturn, 1), (72, .aload_n 0, 1), (73, .iload_n 1, 1), (74, .invokevirtual 286, 3), (77, .astore 4, 2), (79, .aload 4, 2), (81, .ifnonnull 6, 3), (84, .bipush (-11), 2), (86, .ireturn, 1), (87, .iload_n 3, 1), (88, .ifCond .ne 20, 3), (91, .aload 4, 2), (93, .iload_n 2, 1), (94, .invokevirtual 289, 3), (97, .ifCond .eq 11, 3), (100, .aload 4, 2), (102, .getfield 260, 3), (105, .goto 5, 3), (108, .bipush (-13), 2), (110, .ireturn, 1)] = true := by decide +kernel
def f_X11_taken_69 (M : k_M) : Option (Int32 × k_M) := some (-13, M)
theorem m_X11_taken_69 {Z : k_Z} {G : k_G} (C : k_C Z G RX11 cX11_taken (true, 5, 3, 0, 0) (some .int) "taken") (M : k_M) : Sm Z G emI (true, 5, 3, 0, 0) (0, 0) 69 [] [] M (f_X11_taken_69 M) := by
  show Sm Z G emI _ _ _ _ _ _ (some (-13, M))
  refine x_bipush C (v := -13) (k_dg dt_X11_taken_1 0 69 (.bipush (-13)) 2 rfl) (by decide) ?_
  exact x_iret C (by decide) (by decide) (k_dg dt_X11_taken_1 1 71 (.ireturn) 1 rfl)
def f_X11_taken_108 (M : k_M) : Option (Int32 × k_M) := some (-13, M)
theorem m_X11_taken_108 {Z : k_Z} {G : k_G} (C : k_C Z G RX11 cX11_taken (true, 5, 3, 0, 0) (some .int) "taken") (M : k_M) : Sm Z G emI (true, 5, 3, 0, 0) (0, 0) 108 [] [] M (f_X11_taken_108 M) := by
  show Sm Z G emI _ _ _ _ _ _ (some (-13, M))
  refine x_bipush C (v := -13) (k_dg dt_X11_taken_1 19 108 (.bipush (-13)) 2 rfl) (by decide) ?_
  exact x_iret C (by decide) (by decide) (k_dg dt_X11_taken_1 20 110 (.ireturn) 1 rfl)
def f_X11_taken_33 (l1 : Int32) (l2 : Int32) (l3 : Int32) (M : k_M) : Option (Int32 × k_M) := rdI M 71 4 l1 (fun v1 => if v1 = 2 then if l3 = 0 then f_X11_taken_69 M else rdI M 72 4 l1 (fun v8 => if v8 = (l2 - 10) then rdI M 73 4 l1 (fun v9 => some (v9, M)) else f_X11_taken_69 M) else bd (f_X11_ruleOn l1 M) (fun r2 M3 => nul r2 (some (-11, M3)) (fun a4 => if l3 = 0 then bd (vd_Rule_isOf a4 l2 M3) (fun r5 M6 => if r5 = 0 then f_X11_taken_108 M6 else gRl M6 a4 1 (fun v7 => some (v7, M6))) else f_X11_taken_108 M3)))
theorem m_X11_taken_33 {Z : k_Z} {G : k_G} (C : k_C Z G RX11 cX11_taken (true, 5, 3, 0, 0) (some .int) "taken") (l1 : Int32) (l2 : Int32) (l3 : Int32) (M : k_M) : Sm Z G emI (true, 5, 3, 0, 0) (0, 0) 33 [(0, k_ra Z 0), (1, Value.int l1), (2, Value.int l2), (3, Value.int l3)] [] M (f_X11_taken_33 l1 l2 l3 M) := by
  show Sm Z G emI _ _ _ _ _ _ (rdI M 71 4 l1 (fun v1 => if v1 = 2 then if l3 = 0 then f_X11_taken_69 M else rdI M 72 4 l1 (fun v8 => if v8 = (l2 - 10) then rdI M 73 4 l1 (fun v9 => some (v9, M)) else f_X11_taken_69 M) else bd (f_X11_ruleOn l1 M) (fun r2 M3 => nul r2 (some (-11, M3)) (fun a4 => if l3 = 0 then bd (vd_Rule_isOf a4 l2 M3) (fun r5 M6 => if r5 = 0 then f_X11_taken_108 M6 else gRl M6 a4 1 (fun v7 => some (v7, M6))) else f_X11_taken_108 M3))))
  refine x_aload_n C (k_dg dt_X11_taken_0 19 33 (.aload_n 0) 1 rfl) 0 rfl ?_
  refine x_getR C (a := 0) (j := 10) 71 rfl rfl (by decide) fl_RX11_52 rfl rfl rfl (k_dg dt_X11_taken_0 20 34 (.getfield 52) 3 rfl) ?_
  refine x_iload_n C (k_dg dt_X11_taken_0 21 37 (.iload_n 1) 1 rfl) 1 rfl ?_
  refine x_iald C (a := 71) (n := 4) rfl rfl (k_dg dt_X11_taken_0 22 38 (.iaload) 1 rfl) (fun v1 => ?_)
  refine x_iconst C (v := 2) (k_dg dt_X11_taken_0 23 39 (.iconst 2) 1 rfl) (by decide) ?_
  refine x_icmp_ne C (tgt := 72) (k_dg dt_X11_taken_0 24 40 (.if_icmp .ne 32) 3 rfl) (by decide) (fun _ => ?_) (fun _ => ?_)
  · refine x_iload_n C (k_dg dt_X11_taken_0 25 43 (.iload_n 3) 1 rfl) 3 rfl ?_
    refine x_if_eq C (tgt := 69) (k_dg dt_X11_taken_0 26 44 (.ifCond .eq 25) 3 rfl) (by decide) (fun _ => ?_) (fun _ => ?_)
    · refine x_lv [] rfl ?_
      exact m_X11_taken_69 C M
    · refine x_aload_n C (k_dg dt_X11_taken_0 27 47 (.aload_n 0) 1 rfl) 0 rfl ?_
      refine x_getR C (a := 0) (j := 11) 72 rfl rfl (by decide) fl_RX11_55 rfl rfl rfl (k_dg dt_X11_taken_0 28 48 (.getfield 55) 3 rfl) ?_
      refine x_iload_n C (k_dg dt_X11_taken_0 29 51 (.iload_n 1) 1 rfl) 1 rfl ?_
      refine x_iald C (a := 72) (n := 4) rfl rfl (k_dg dt_X11_taken_0 30 52 (.iaload) 1 rfl) (fun v8 => ?_)
      refine x_iload_n C (k_dg dt_X11_taken_0 31 53 (.iload_n 2) 1 rfl) 2 rfl ?_
      refine x_bipush C (v := 10) (k_dg dt_X11_taken_0 32 54 (.bipush 10) 2 rfl) (by decide) ?_
      refine x_isub C (k_dg dt_X11_taken_0 33 56 (.isub) 1 rfl) ?_
      refine x_icmp_ne C (tgt := 69) (k_dg dt_X11_taken_0 34 57 (.if_icmp .ne 12) 3 rfl) (by decide) (fun _ => ?_) (fun _ => ?_)
      · refine x_aload_n C (k_dg dt_X11_taken_0 35 60 (.aload_n 0) 1 rfl) 0 rfl ?_
        refine x_getR C (a := 0) (j := 12) 73 rfl rfl (by decide) fl_RX11_58 rfl rfl rfl (k_dg dt_X11_taken_0 36 61 (.getfield 58) 3 rfl) ?_
        refine x_iload_n C (k_dg dt_X11_taken_0 37 64 (.iload_n 1) 1 rfl) 1 rfl ?_
        refine x_iald C (a := 73) (n := 4) rfl rfl (k_dg dt_X11_taken_0 38 65 (.iaload) 1 rfl) (fun v9 => ?_)
        refine x_goto C (tgt := 71) (k_dg dt_X11_taken_0 39 66 (.goto 5) 3 rfl) (by decide) ?_
        exact x_iret C (by decide) (by decide) (k_dg dt_X11_taken_1 1 71 (.ireturn) 1 rfl)
      · refine x_lv [] rfl ?_
        exact m_X11_taken_69 C M
  · refine x_aload_n C (k_dg dt_X11_taken_1 2 72 (.aload_n 0) 1 rfl) 0 rfl ?_
    refine x_iload_n C (k_dg dt_X11_taken_1 3 73 (.iload_n 1) 1 rfl) 1 rfl ?_
    refine x_callV C (a := 0) (kd := 9) (vs := [Value.int l1]) (rest := []) rfl rfl (by decide) (fun r hr => by cases hr; rfl) (c_X11_ruleOn C.2.2.2.2.2.2.2.2.2 G.2.1 l1 M) cy_X11_ruleOn lk_RX11_286 im_X11_ruleOn se_X11_ruleOn (by decide) (by decide) (by decide) (by decide) rfl rfl (Nat.le_of_ble_eq_true rfl) (k_dg dt_X11_taken_1 4 74 (.invokevirtual 286) 3 rfl) (fun r2 M3 => ?_)
    show Sm Z G _ _ _ _ [(0, k_ra Z 0), (1, Value.int l1), (2, Value.int l2), (3, Value.int l3)] [k_rn Z r2] _ _
    refine x_astore_Q C (lv' := [(4, k_rn Z r2), (0, k_ra Z 0), (1, Value.int l1), (2, Value.int l2), (3, Value.int l3)]) (k_dg dt_X11_taken_1 5 77 (.astore 4) 2 rfl) (by decide) rfl ?_
    refine x_aload_Q C (k_dg dt_X11_taken_1 6 79 (.aload 4) 2 rfl) 0 rfl ?_
    refine x_ifnonnull C (tgt := 87) (k_dg dt_X11_taken_1 7 81 (.ifnonnull 6) 3 rfl) (by decide) (fun hq => ?_) (fun a4 hq => ?_)
    · skip
      refine x_bipush C (v := -11) (k_dg dt_X11_taken_1 8 84 (.bipush (-11)) 2 rfl) (by decide) ?_
      exact x_iret C (by decide) (by decide) (k_dg dt_X11_taken_1 9 86 (.ireturn) 1 rfl)
    · subst hq
      refine x_iload_n C (k_dg dt_X11_taken_1 10 87 (.iload_n 3) 1 rfl) 4 rfl ?_
      refine x_if_ne C (tgt := 108) (k_dg dt_X11_taken_1 11 88 (.ifCond .ne 20) 3 rfl) (by decide) (fun _ => ?_) (fun _ => ?_)
      · refine x_aload C (k_dg dt_X11_taken_1 12 91 (.aload 4) 2 rfl) 0 rfl ?_
        refine x_iload_n C (k_dg dt_X11_taken_1 13 93 (.iload_n 2) 1 rfl) 3 rfl ?_
        refine x_vd_Rule_isOf C (a := a4) (rest := []) vl_RX11_289 (by decide) (by decide) (by decide) rfl (Nat.le_of_ble_eq_true rfl) (k_dg dt_X11_taken_1 14 94 (.invokevirtual 289) 3 rfl) (fun r5 M6 => ?_)
        show Sm Z G _ _ _ _ [(4, k_ra Z a4), (0, k_ra Z 0), (1, Value.int l1), (2, Value.int l2), (3, Value.int l3)] [Value.int r5] _ _
        refine x_if_eq C (tgt := 108) (k_dg dt_X11_taken_1 15 97 (.ifCond .eq 11) 3 rfl) (by decide) (fun _ => ?_) (fun _ => ?_)
        · refine x_lv [] rfl ?_
          exact m_X11_taken_108 C M6
        · refine x_aload C (k_dg dt_X11_taken_1 16 100 (.aload 4) 2 rfl) 0 rfl ?_
          refine x_getRl C (a := a4) (j := 1) (by decide) fl_RX11_260 (k_dg dt_X11_taken_1 17 102 (.getfield 260) 3 rfl) (fun v7 => ?_)
          refine x_goto C (tgt := 110) (k_dg dt_X11_taken_1 18 105 (.goto 5) 3 rfl) (by decide) ?_
          exact x_iret C (by decide) (by decide) (k_dg dt_X11_taken_1 20 110 (.ireturn) 1 rfl)
      · refine x_lv [] rfl ?_
        exact m_X11_taken_108 C M3
def f_X11_taken (p1 : Int32) (p2 : Int32) (M : k_M) : Option (Int32 × k_M) := bd (f_X11_within p2 10 13 M) (fun r1 M2 => bd (f_X11_within p1 0 3 M2) (fun r3 M4 => if r3 = 0 then some (-1, M4) else if r1 = 0 then bd (f_X11_within p2 0 5 M4) (fun r5 M6 => if r5 = 0 then some (-1, M6) else f_X11_taken_33 p1 p2 r1 M6) else f_X11_taken_33 p1 p2 r1 M4))
theorem m_X11_taken_0 {Z : k_Z} {G : k_G} (C : k_C Z G RX11 cX11_taken (true, 5, 3, 0, 0) (some .int) "taken") (p1 : Int32) (p2 : Int32) (M : k_M) : Sm Z G emI (true, 5, 3, 0, 0) (0, 0) 0 [(0, k_ra Z 0), (1, Value.int p1), (2, Value.int p2)] [] M (f_X11_taken p1 p2 M) := by
  show Sm Z G emI _ _ _ _ _ _ (bd (f_X11_within p2 10 13 M) (fun r1 M2 => bd (f_X11_within p1 0 3 M2) (fun r3 M4 => if r3 = 0 then some (-1, M4) else if r1 = 0 then bd (f_X11_within p2 0 5 M4) (fun r5 M6 => if r5 = 0 then some (-1, M6) else f_X11_taken_33 p1 p2 r1 M6) else f_X11_taken_33 p1 p2 r1 M4)))
  refine x_iload_n C (k_dg dt_X11_taken_0 0 0 (.iload_n 2) 1 rfl) 2 rfl ?_
  refine x_bipush C (v := 10) (k_dg dt_X11_taken_0 1 1 (.bipush 10) 2 rfl) (by decide) ?_
  refine x_bipush C (v := 13) (k_dg dt_X11_taken_0 2 3 (.bipush 13) 2 rfl) (by decide) ?_
  refine x_callS C (vs := [Value.int p2, Value.int 10, Value.int 13]) (rest := []) (c_X11_within C.2.2.2.2.2.2.2.2.2 G.2.1 p2 10 13 M) cy_X11_within lk_RX11_95 stt_X11_within (by decide) (by decide) (by decide) (by decide) rfl rfl (Nat.le_of_ble_eq_true rfl) (k_dg dt_X11_taken_0 3 5 (.invokestatic 95) 3 rfl) (fun r1 M2 => ?_)
  show Sm Z G _ _ _ _ [(0, k_ra Z 0), (1, Value.int p1), (2, Value.int p2)] [Value.int r1] _ _
  refine x_istore_n C (lv' := [(3, Value.int r1), (0, k_ra Z 0), (1, Value.int p1), (2, Value.int p2)]) (k_dg dt_X11_taken_0 4 8 (.istore_n 3) 1 rfl) (by decide) rfl ?_
  refine x_iload_n C (k_dg dt_X11_taken_0 5 9 (.iload_n 1) 1 rfl) 2 rfl ?_
  refine x_iconst C (v := 0) (k_dg dt_X11_taken_0 6 10 (.iconst 0) 1 rfl) (by decide) ?_
  refine x_iconst C (v := 3) (k_dg dt_X11_taken_0 7 11 (.iconst 3) 1 rfl) (by decide) ?_
  refine x_callS C (vs := [Value.int p1, Value.int 0, Value.int 3]) (rest := []) (c_X11_within C.2.2.2.2.2.2.2.2.2 G.2.1 p1 0 3 M2) cy_X11_within lk_RX11_95 stt_X11_within (by decide) (by decide) (by decide) (by decide) rfl rfl (Nat.le_of_ble_eq_true rfl) (k_dg dt_X11_taken_0 8 12 (.invokestatic 95) 3 rfl) (fun r3 M4 => ?_)
  show Sm Z G _ _ _ _ [(3, Value.int r1), (0, k_ra Z 0), (1, Value.int p1), (2, Value.int p2)] [Value.int r3] _ _
  refine x_if_eq C (tgt := 31) (k_dg dt_X11_taken_0 9 15 (.ifCond .eq 16) 3 rfl) (by decide) (fun _ => ?_) (fun _ => ?_)
  · refine x_iconst C (v := -1) (k_dg dt_X11_taken_0 17 31 (.iconst (-1)) 1 rfl) (by decide) ?_
    exact x_iret C (by decide) (by decide) (k_dg dt_X11_taken_0 18 32 (.ireturn) 1 rfl)
  · refine x_iload_n C (k_dg dt_X11_taken_0 10 18 (.iload_n 3) 1 rfl) 0 rfl ?_
    refine x_if_ne C (tgt := 33) (k_dg dt_X11_taken_0 11 19 (.ifCond .ne 14) 3 rfl) (by decide) (fun _ => ?_) (fun _ => ?_)
    · refine x_iload_n C (k_dg dt_X11_taken_0 12 22 (.iload_n 2) 1 rfl) 3 rfl ?_
      refine x_iconst C (v := 0) (k_dg dt_X11_taken_0 13 23 (.iconst 0) 1 rfl) (by decide) ?_
      refine x_iconst C (v := 5) (k_dg dt_X11_taken_0 14 24 (.iconst 5) 1 rfl) (by decide) ?_
      refine x_callS C (vs := [Value.int p2, Value.int 0, Value.int 5]) (rest := []) (c_X11_within C.2.2.2.2.2.2.2.2.2 G.2.1 p2 0 5 M4) cy_X11_within lk_RX11_95 stt_X11_within (by decide) (by decide) (by decide) (by decide) rfl rfl (Nat.le_of_ble_eq_true rfl) (k_dg dt_X11_taken_0 15 25 (.invokestatic 95) 3 rfl) (fun r5 M6 => ?_)
      show Sm Z G _ _ _ _ [(3, Value.int r1), (0, k_ra Z 0), (1, Value.int p1), (2, Value.int p2)] [Value.int r5] _ _
      refine x_if_ne C (tgt := 33) (k_dg dt_X11_taken_0 16 28 (.ifCond .ne 5) 3 rfl) (by decide) (fun _ => ?_) (fun _ => ?_)
      · refine x_iconst C (v := -1) (k_dg dt_X11_taken_0 17 31 (.iconst (-1)) 1 rfl) (by decide) ?_
        exact x_iret C (by decide) (by decide) (k_dg dt_X11_taken_0 18 32 (.ireturn) 1 rfl)
      · refine x_lv [1, 2, 3, 0] rfl ?_
        exact m_X11_taken_33 C p1 p2 r1 M6
    · refine x_lv [1, 2, 3, 0] rfl ?_
      exact m_X11_taken_33 C p1 p2 r1 M4
theorem c_X11_taken {Z : k_Z} (hg : k_Gd Z) (l : Launch) (p1 : Int32) (p2 : Int32) (M : k_M) : Con true Z l yX11_taken cX11_taken 5 (some .int) 3 0 0 emI [k_ra Z 0, Value.int p1, Value.int p2] M (f_X11_taken p1 p2 M) := k_con hg (by decide) (Nat.le_of_ble_eq_true rfl) (fun G hl C => m_X11_taken_0 C p1 p2 M)
theorem dt_X11_act_0 : k_dec cX11_act [(0, .aload_n 0, 1), (1, .getfield 64, 3), (4, .invokevirtual 292, 3), (7, .aload_n 0, 1), (8, .iload_n 1, 1), (9, .invokevirtual 286, 3), (12, .astore 4, 2), (14, .aload 4, 2), (16, .ifnull 12, 3), (19, .iload_n 2, 1), (20, .iconst 0, 1), (21, .iconst 3, 1), (22, .invokestatic 95, 3), (25, .ifCond .ne 5, 3), (28, .iconst 0, 1), (29, .ireturn, 1), (30, .iload_n 2, 1), (31, .tableswitch 70 0 2 #[25, 40, 55], 25), (56, .aload 4, 2), (58, .iload_n 3, 1), (59, .aload_n 0, 1), (60, .getfield 64, 3), (63, .invokevirtual 295, 3), (66, .istore 5, 2), (68, .goto 45, 3), (71, .aload 4, 2), (73, .iload_n 3, 1), (74, .aload_n 0, 1), (75, .getfield 64, 3), (78, .invokevirtual 299, 3), (81, .istore 5, 2), (83, .goto 30, 3), (86, .aload 4, 2), (88, .iload_n 3, 1), (89, .aload_n 0, 1), (90, .getfield 64, 3), (93, .invokevirtual 302, 3), (96, .istore 5, 2), (98, .goto 15, 3), (101, .aload 4, 2)] = true := by decide +kernel
theorem dt_X11_act_1 : k_dec cX11_act [(103, .iload_n 3, 1), (104, .aload_n 0, 1), (105, .getfield 64, 3), (108, .invokevirtual 305, 3), (111, .istore 5, 2), (113, .aload_n 0, 1), (114, .getfield 64, 3), (117, .getfield 308, 3), (120, .ifCond .eq 8, 3), (123, .bipush (-15), 2), (125, .goto 5, 3), (128, .iload 5, 2), (130, .ireturn, 1)] = true := by decide +kernel
def f_X11_act_113 (l5 : Int32) (M : k_M) : Option (Int32 × k_M) := if (M.1 74 2) = 0 then some (l5, M) else some (-15, M)
theorem m_X11_act_113 {Z : k_Z} {G : k_G} (C : k_C Z G RX11 cX11_act (true, 6, 8, 0, 0) (some .int) "act") (l5 : Int32) (M : k_M) : Sm Z G emI (true, 6, 8, 0, 0) (0, 0) 113 [(0, k_ra Z 0), (5, Value.int l5)] [] M (f_X11_act_113 l5 M) := by
  show Sm Z G emI _ _ _ _ _ _ (if (M.1 74 2) = 0 then some (l5, M) else some (-15, M))
  refine x_aload_n C (k_dg dt_X11_act_1 5 113 (.aload_n 0) 1 rfl) 0 rfl ?_
  refine x_getR C (a := 0) (j := 13) 74 rfl rfl (by decide) fl_RX11_64 rfl rfl rfl (k_dg dt_X11_act_1 6 114 (.getfield 64) 3 rfl) ?_
  refine x_getI C (a := 74) (j := 2) rfl rfl (by decide) fl_RX11_308 rfl (k_dg dt_X11_act_1 7 117 (.getfield 308) 3 rfl) ?_
  refine x_if_eq C (tgt := 128) (k_dg dt_X11_act_1 8 120 (.ifCond .eq 8) 3 rfl) (by decide) (fun _ => ?_) (fun _ => ?_)
  · refine x_iload C (k_dg dt_X11_act_1 11 128 (.iload 5) 2 rfl) 1 rfl ?_
    exact x_iret C (by decide) (by decide) (k_dg dt_X11_act_1 12 130 (.ireturn) 1 rfl)
  · refine x_bipush C (v := -15) (k_dg dt_X11_act_1 9 123 (.bipush (-15)) 2 rfl) (by decide) ?_
    refine x_goto C (tgt := 130) (k_dg dt_X11_act_1 10 125 (.goto 5) 3 rfl) (by decide) ?_
    exact x_iret C (by decide) (by decide) (k_dg dt_X11_act_1 12 130 (.ireturn) 1 rfl)
def f_X11_act (p1 : Int32) (p2 : Int32) (p3 : Int32) (M : k_M) : Option (Int32 × k_M) := bd (f_X9_clear M) (fun r1 M2 => bd (f_X11_ruleOn p1 M2) (fun r3 M4 => nul r3 (some (0, M4)) (fun a5 => bd (f_X11_within p2 0 3 M4) (fun r6 M7 => if r6 = 0 then some (0, M7) else tsw p2 0 3 (fun i_ => if i_ = 0 then bd (vd_Rule_rolls a5 p3 M7) (fun r8 M9 => f_X11_act_113 r8 M9) else if i_ = 1 then bd (vd_Rule_eats a5 p3 M7) (fun r10 M11 => f_X11_act_113 r10 M11) else if i_ = 2 then bd (vd_Rule_shares a5 p3 M7) (fun r12 M13 => f_X11_act_113 r12 M13) else bd (vd_Rule_tells a5 p3 M7) (fun r14 M15 => f_X11_act_113 r14 M15)) (bd (vd_Rule_tells a5 p3 M7) (fun r14 M15 => f_X11_act_113 r14 M15))))))
theorem m_X11_act_0 {Z : k_Z} {G : k_G} (C : k_C Z G RX11 cX11_act (true, 6, 8, 0, 0) (some .int) "act") (p1 : Int32) (p2 : Int32) (p3 : Int32) (M : k_M) : Sm Z G emI (true, 6, 8, 0, 0) (0, 0) 0 [(0, k_ra Z 0), (1, Value.int p1), (2, Value.int p2), (3, Value.int p3)] [] M (f_X11_act p1 p2 p3 M) := by
  show Sm Z G emI _ _ _ _ _ _ (bd (f_X9_clear M) (fun r1 M2 => bd (f_X11_ruleOn p1 M2) (fun r3 M4 => nul r3 (some (0, M4)) (fun a5 => bd (f_X11_within p2 0 3 M4) (fun r6 M7 => if r6 = 0 then some (0, M7) else tsw p2 0 3 (fun i_ => if i_ = 0 then bd (vd_Rule_rolls a5 p3 M7) (fun r8 M9 => f_X11_act_113 r8 M9) else if i_ = 1 then bd (vd_Rule_eats a5 p3 M7) (fun r10 M11 => f_X11_act_113 r10 M11) else if i_ = 2 then bd (vd_Rule_shares a5 p3 M7) (fun r12 M13 => f_X11_act_113 r12 M13) else bd (vd_Rule_tells a5 p3 M7) (fun r14 M15 => f_X11_act_113 r14 M15)) (bd (vd_Rule_tells a5 p3 M7) (fun r14 M15 => f_X11_act_113 r14 M15)))))))
  refine x_aload_n C (k_dg dt_X11_act_0 0 0 (.aload_n 0) 1 rfl) 0 rfl ?_
  refine x_getR C (a := 0) (j := 13) 74 rfl rfl (by decide) fl_RX11_64 rfl rfl rfl (k_dg dt_X11_act_0 1 1 (.getfield 64) 3 rfl) ?_
  refine x_callV C (a := 74) (kd := 7) (vs := []) (rest := []) rfl rfl (by decide) (fun r hr => by cases hr; rfl) (c_X9_clear C.2.2.2.2.2.2.2.2.2 G.2.1 M) cy_X9_clear lk_RX11_292 im_X9_clear se_X9_clear (by decide) (by decide) (by decide) (by decide) rfl rfl (Nat.le_of_ble_eq_true rfl) (k_dg dt_X11_act_0 2 4 (.invokevirtual 292) 3 rfl) (fun r1 M2 => ?_)
  show Sm Z G _ _ _ _ [(0, k_ra Z 0), (1, Value.int p1), (2, Value.int p2), (3, Value.int p3)] [] _ _
  refine x_aload_n C (k_dg dt_X11_act_0 3 7 (.aload_n 0) 1 rfl) 0 rfl ?_
  refine x_iload_n C (k_dg dt_X11_act_0 4 8 (.iload_n 1) 1 rfl) 1 rfl ?_
  refine x_callV C (a := 0) (kd := 9) (vs := [Value.int p1]) (rest := []) rfl rfl (by decide) (fun r hr => by cases hr; rfl) (c_X11_ruleOn C.2.2.2.2.2.2.2.2.2 G.2.1 p1 M2) cy_X11_ruleOn lk_RX11_286 im_X11_ruleOn se_X11_ruleOn (by decide) (by decide) (by decide) (by decide) rfl rfl (Nat.le_of_ble_eq_true rfl) (k_dg dt_X11_act_0 5 9 (.invokevirtual 286) 3 rfl) (fun r3 M4 => ?_)
  show Sm Z G _ _ _ _ [(0, k_ra Z 0), (1, Value.int p1), (2, Value.int p2), (3, Value.int p3)] [k_rn Z r3] _ _
  refine x_astore_Q C (lv' := [(4, k_rn Z r3), (0, k_ra Z 0), (1, Value.int p1), (2, Value.int p2), (3, Value.int p3)]) (k_dg dt_X11_act_0 6 12 (.astore 4) 2 rfl) (by decide) rfl ?_
  refine x_aload_Q C (k_dg dt_X11_act_0 7 14 (.aload 4) 2 rfl) 0 rfl ?_
  refine x_ifnull C (tgt := 28) (k_dg dt_X11_act_0 8 16 (.ifnull 12) 3 rfl) (by decide) (fun hq => ?_) (fun a5 hq => ?_)
  · skip
    refine x_iconst C (v := 0) (k_dg dt_X11_act_0 14 28 (.iconst 0) 1 rfl) (by decide) ?_
    exact x_iret C (by decide) (by decide) (k_dg dt_X11_act_0 15 29 (.ireturn) 1 rfl)
  · subst hq
    refine x_iload_n C (k_dg dt_X11_act_0 9 19 (.iload_n 2) 1 rfl) 3 rfl ?_
    refine x_iconst C (v := 0) (k_dg dt_X11_act_0 10 20 (.iconst 0) 1 rfl) (by decide) ?_
    refine x_iconst C (v := 3) (k_dg dt_X11_act_0 11 21 (.iconst 3) 1 rfl) (by decide) ?_
    refine x_callS C (vs := [Value.int p2, Value.int 0, Value.int 3]) (rest := []) (c_X11_within C.2.2.2.2.2.2.2.2.2 G.2.1 p2 0 3 M4) cy_X11_within lk_RX11_95 stt_X11_within (by decide) (by decide) (by decide) (by decide) rfl rfl (Nat.le_of_ble_eq_true rfl) (k_dg dt_X11_act_0 12 22 (.invokestatic 95) 3 rfl) (fun r6 M7 => ?_)
    show Sm Z G _ _ _ _ [(4, k_ra Z a5), (0, k_ra Z 0), (1, Value.int p1), (2, Value.int p2), (3, Value.int p3)] [Value.int r6] _ _
    refine x_if_ne C (tgt := 30) (k_dg dt_X11_act_0 13 25 (.ifCond .ne 5) 3 rfl) (by decide) (fun _ => ?_) (fun _ => ?_)
    · refine x_iconst C (v := 0) (k_dg dt_X11_act_0 14 28 (.iconst 0) 1 rfl) (by decide) ?_
      exact x_iret C (by decide) (by decide) (k_dg dt_X11_act_0 15 29 (.ireturn) 1 rfl)
    · refine x_iload_n C (k_dg dt_X11_act_0 16 30 (.iload_n 2) 1 rfl) 3 rfl ?_
      refine x_tsw C (n := 3) (tgt := 101) (k_dg dt_X11_act_0 17 31 (.tableswitch 70 0 2 #[25, 40, 55]) 25 rfl) (by decide) (by decide) (fun i_ => [56, 71, 86].getD i_ 0) (by decide) (fun i_ hi_ _ => ?_) ?_
      · match i_, hi_ with
        | 0, _ =>
          show Sm Z G emI _ _ 56 _ _ _ (bd (vd_Rule_rolls a5 p3 M7) (fun r8 M9 => f_X11_act_113 r8 M9))
          refine x_aload C (k_dg dt_X11_act_0 18 56 (.aload 4) 2 rfl) 0 rfl ?_
          refine x_iload_n C (k_dg dt_X11_act_0 19 58 (.iload_n 3) 1 rfl) 4 rfl ?_
          refine x_aload_n C (k_dg dt_X11_act_0 20 59 (.aload_n 0) 1 rfl) 1 rfl ?_
          refine x_getR C (a := 0) (j := 13) 74 rfl rfl (by decide) fl_RX11_64 rfl rfl rfl (k_dg dt_X11_act_0 21 60 (.getfield 64) 3 rfl) ?_
          refine x_vd_Rule_rolls C (a := a5) (rest := []) vl_RX11_295 (by decide) (by decide) (by decide) rfl (Nat.le_of_ble_eq_true rfl) (k_dg dt_X11_act_0 22 63 (.invokevirtual 295) 3 rfl) (fun r8 M9 => ?_)
          show Sm Z G _ _ _ _ [(4, k_ra Z a5), (0, k_ra Z 0), (1, Value.int p1), (2, Value.int p2), (3, Value.int p3)] [Value.int r8] _ _
          refine x_istore C (lv' := [(5, Value.int r8), (4, k_ra Z a5), (0, k_ra Z 0), (1, Value.int p1), (2, Value.int p2), (3, Value.int p3)]) (k_dg dt_X11_act_0 23 66 (.istore 5) 2 rfl) (by decide) rfl ?_
          refine x_goto C (tgt := 113) (k_dg dt_X11_act_0 24 68 (.goto 45) 3 rfl) (by decide) ?_
          refine x_lv [2, 0] rfl ?_
          exact m_X11_act_113 C r8 M9
        | 1, _ =>
          show Sm Z G emI _ _ 71 _ _ _ (bd (vd_Rule_eats a5 p3 M7) (fun r10 M11 => f_X11_act_113 r10 M11))
          refine x_aload C (k_dg dt_X11_act_0 25 71 (.aload 4) 2 rfl) 0 rfl ?_
          refine x_iload_n C (k_dg dt_X11_act_0 26 73 (.iload_n 3) 1 rfl) 4 rfl ?_
          refine x_aload_n C (k_dg dt_X11_act_0 27 74 (.aload_n 0) 1 rfl) 1 rfl ?_
          refine x_getR C (a := 0) (j := 13) 74 rfl rfl (by decide) fl_RX11_64 rfl rfl rfl (k_dg dt_X11_act_0 28 75 (.getfield 64) 3 rfl) ?_
          refine x_vd_Rule_eats C (a := a5) (rest := []) vl_RX11_299 (by decide) (by decide) (by decide) rfl (Nat.le_of_ble_eq_true rfl) (k_dg dt_X11_act_0 29 78 (.invokevirtual 299) 3 rfl) (fun r10 M11 => ?_)
          show Sm Z G _ _ _ _ [(4, k_ra Z a5), (0, k_ra Z 0), (1, Value.int p1), (2, Value.int p2), (3, Value.int p3)] [Value.int r10] _ _
          refine x_istore C (lv' := [(5, Value.int r10), (4, k_ra Z a5), (0, k_ra Z 0), (1, Value.int p1), (2, Value.int p2), (3, Value.int p3)]) (k_dg dt_X11_act_0 30 81 (.istore 5) 2 rfl) (by decide) rfl ?_
          refine x_goto C (tgt := 113) (k_dg dt_X11_act_0 31 83 (.goto 30) 3 rfl) (by decide) ?_
          refine x_lv [2, 0] rfl ?_
          exact m_X11_act_113 C r10 M11
        | 2, _ =>
          show Sm Z G emI _ _ 86 _ _ _ (bd (vd_Rule_shares a5 p3 M7) (fun r12 M13 => f_X11_act_113 r12 M13))
          refine x_aload C (k_dg dt_X11_act_0 32 86 (.aload 4) 2 rfl) 0 rfl ?_
          refine x_iload_n C (k_dg dt_X11_act_0 33 88 (.iload_n 3) 1 rfl) 4 rfl ?_
          refine x_aload_n C (k_dg dt_X11_act_0 34 89 (.aload_n 0) 1 rfl) 1 rfl ?_
          refine x_getR C (a := 0) (j := 13) 74 rfl rfl (by decide) fl_RX11_64 rfl rfl rfl (k_dg dt_X11_act_0 35 90 (.getfield 64) 3 rfl) ?_
          refine x_vd_Rule_shares C (a := a5) (rest := []) vl_RX11_302 (by decide) (by decide) (by decide) rfl (Nat.le_of_ble_eq_true rfl) (k_dg dt_X11_act_0 36 93 (.invokevirtual 302) 3 rfl) (fun r12 M13 => ?_)
          show Sm Z G _ _ _ _ [(4, k_ra Z a5), (0, k_ra Z 0), (1, Value.int p1), (2, Value.int p2), (3, Value.int p3)] [Value.int r12] _ _
          refine x_istore C (lv' := [(5, Value.int r12), (4, k_ra Z a5), (0, k_ra Z 0), (1, Value.int p1), (2, Value.int p2), (3, Value.int p3)]) (k_dg dt_X11_act_0 37 96 (.istore 5) 2 rfl) (by decide) rfl ?_
          refine x_goto C (tgt := 113) (k_dg dt_X11_act_0 38 98 (.goto 15) 3 rfl) (by decide) ?_
          refine x_lv [2, 0] rfl ?_
          exact m_X11_act_113 C r12 M13
        | k + 3, h => exact absurd h (by omega)
      · refine x_aload C (k_dg dt_X11_act_0 39 101 (.aload 4) 2 rfl) 0 rfl ?_
        refine x_iload_n C (k_dg dt_X11_act_1 0 103 (.iload_n 3) 1 rfl) 4 rfl ?_
        refine x_aload_n C (k_dg dt_X11_act_1 1 104 (.aload_n 0) 1 rfl) 1 rfl ?_
        refine x_getR C (a := 0) (j := 13) 74 rfl rfl (by decide) fl_RX11_64 rfl rfl rfl (k_dg dt_X11_act_1 2 105 (.getfield 64) 3 rfl) ?_
        refine x_vd_Rule_tells C (a := a5) (rest := []) vl_RX11_305 (by decide) (by decide) (by decide) rfl (Nat.le_of_ble_eq_true rfl) (k_dg dt_X11_act_1 3 108 (.invokevirtual 305) 3 rfl) (fun r14 M15 => ?_)
        show Sm Z G _ _ _ _ [(4, k_ra Z a5), (0, k_ra Z 0), (1, Value.int p1), (2, Value.int p2), (3, Value.int p3)] [Value.int r14] _ _
        refine x_istore C (lv' := [(5, Value.int r14), (4, k_ra Z a5), (0, k_ra Z 0), (1, Value.int p1), (2, Value.int p2), (3, Value.int p3)]) (k_dg dt_X11_act_1 4 111 (.istore 5) 2 rfl) (by decide) rfl ?_
        refine x_lv [2, 0] rfl ?_
        exact m_X11_act_113 C r14 M15
theorem c_X11_act {Z : k_Z} (hg : k_Gd Z) (l : Launch) (p1 : Int32) (p2 : Int32) (p3 : Int32) (M : k_M) : Con true Z l yX11_act cX11_act 6 (some .int) 8 0 0 emI [k_ra Z 0, Value.int p1, Value.int p2, Value.int p3] M (f_X11_act p1 p2 p3 M) := k_con hg (by decide) (Nat.le_of_ble_eq_true rfl) (fun G hl C => m_X11_act_0 C p1 p2 p3 M)
theorem dt_X11_trace_0 : k_dec cX11_trace [(0, .iload_n 1, 1), (1, .iconst 0, 1), (2, .aload_n 0, 1), (3, .getfield 64, 3), (6, .getfield 311, 3), (9, .iconst 1, 1), (10, .isub, 1), (11, .invokestatic 95, 3), (14, .ifCond .eq 15, 3), (17, .aload_n 0, 1), (18, .getfield 64, 3), (21, .getfield 312, 3), (24, .iload_n 1, 1), (25, .iaload, 1), (26, .goto 5, 3), (29, .bipush (-3), 2), (31, .ireturn, 1)] = true := by decide +kernel
def f_X11_trace (p1 : Int32) (M : k_M) : Option (Int32 × k_M) := bd (f_X11_within p1 0 ((M.1 74 1) - 1) M) (fun r1 M2 => if r1 = 0 then some (-3, M2) else rdI M2 75 30 p1 (fun v3 => some (v3, M2)))
theorem m_X11_trace_0 {Z : k_Z} {G : k_G} (C : k_C Z G RX11 cX11_trace (true, 2, 2, 0, 0) (some .int) "trace") (p1 : Int32) (M : k_M) : Sm Z G emI (true, 2, 2, 0, 0) (0, 0) 0 [(0, k_ra Z 0), (1, Value.int p1)] [] M (f_X11_trace p1 M) := by
  show Sm Z G emI _ _ _ _ _ _ (bd (f_X11_within p1 0 ((M.1 74 1) - 1) M) (fun r1 M2 => if r1 = 0 then some (-3, M2) else rdI M2 75 30 p1 (fun v3 => some (v3, M2))))
  refine x_iload_n C (k_dg dt_X11_trace_0 0 0 (.iload_n 1) 1 rfl) 1 rfl ?_
  refine x_iconst C (v := 0) (k_dg dt_X11_trace_0 1 1 (.iconst 0) 1 rfl) (by decide) ?_
  refine x_aload_n C (k_dg dt_X11_trace_0 2 2 (.aload_n 0) 1 rfl) 0 rfl ?_
  refine x_getR C (a := 0) (j := 13) 74 rfl rfl (by decide) fl_RX11_64 rfl rfl rfl (k_dg dt_X11_trace_0 3 3 (.getfield 64) 3 rfl) ?_
  refine x_getI C (a := 74) (j := 1) rfl rfl (by decide) fl_RX11_311 rfl (k_dg dt_X11_trace_0 4 6 (.getfield 311) 3 rfl) ?_
  refine x_iconst C (v := 1) (k_dg dt_X11_trace_0 5 9 (.iconst 1) 1 rfl) (by decide) ?_
  refine x_isub C (k_dg dt_X11_trace_0 6 10 (.isub) 1 rfl) ?_
  refine x_callS C (vs := [Value.int p1, Value.int 0, Value.int ((M.1 74 1) - 1)]) (rest := []) (c_X11_within C.2.2.2.2.2.2.2.2.2 G.2.1 p1 0 ((M.1 74 1) - 1) M) cy_X11_within lk_RX11_95 stt_X11_within (by decide) (by decide) (by decide) (by decide) rfl rfl (Nat.le_of_ble_eq_true rfl) (k_dg dt_X11_trace_0 7 11 (.invokestatic 95) 3 rfl) (fun r1 M2 => ?_)
  show Sm Z G _ _ _ _ [(0, k_ra Z 0), (1, Value.int p1)] [Value.int r1] _ _
  refine x_if_eq C (tgt := 29) (k_dg dt_X11_trace_0 8 14 (.ifCond .eq 15) 3 rfl) (by decide) (fun _ => ?_) (fun _ => ?_)
  · refine x_bipush C (v := -3) (k_dg dt_X11_trace_0 15 29 (.bipush (-3)) 2 rfl) (by decide) ?_
    exact x_iret C (by decide) (by decide) (k_dg dt_X11_trace_0 16 31 (.ireturn) 1 rfl)
  · refine x_aload_n C (k_dg dt_X11_trace_0 9 17 (.aload_n 0) 1 rfl) 0 rfl ?_
    refine x_getR C (a := 0) (j := 13) 74 rfl rfl (by decide) fl_RX11_64 rfl rfl rfl (k_dg dt_X11_trace_0 10 18 (.getfield 64) 3 rfl) ?_
    refine x_getR C (a := 74) (j := 0) 75 rfl rfl (by decide) fl_RX11_312 rfl rfl rfl (k_dg dt_X11_trace_0 11 21 (.getfield 312) 3 rfl) ?_
    refine x_iload_n C (k_dg dt_X11_trace_0 12 24 (.iload_n 1) 1 rfl) 1 rfl ?_
    refine x_iald C (a := 75) (n := 30) rfl rfl (k_dg dt_X11_trace_0 13 25 (.iaload) 1 rfl) (fun v3 => ?_)
    refine x_goto C (tgt := 31) (k_dg dt_X11_trace_0 14 26 (.goto 5) 3 rfl) (by decide) ?_
    exact x_iret C (by decide) (by decide) (k_dg dt_X11_trace_0 16 31 (.ireturn) 1 rfl)
theorem c_X11_trace {Z : k_Z} (hg : k_Gd Z) (l : Launch) (p1 : Int32) (M : k_M) : Con true Z l yX11_trace cX11_trace 2 (some .int) 2 0 0 emI [k_ra Z 0, Value.int p1] M (f_X11_trace p1 M) := k_con hg (by decide) (Nat.le_of_ble_eq_true rfl) (fun G hl C => m_X11_trace_0 C p1 M)
theorem dt_X11_many_0 : k_dec cX11_many [(0, .iload_n 1, 1), (1, .tableswitch 110 0 6 #[43, 54, 65, 73, 78, 86, 94], 43), (44, .aload_n 0, 1), (45, .getfield 19, 3), (48, .getfield 75, 3), (51, .getfield 92, 3), (54, .ireturn, 1), (55, .aload_n 0, 1), (56, .getfield 19, 3), (59, .getfield 75, 3), (62, .getfield 110, 3), (65, .ireturn, 1), (66, .aload_n 0, 1), (67, .getfield 19, 3), (70, .getfield 237, 3), (73, .ireturn, 1), (74, .aload_n 0, 1), (75, .getfield 37, 3), (78, .ireturn, 1), (79, .aload_n 0, 1), (80, .getfield 10, 3), (83, .getfield 72, 3), (86, .ireturn, 1), (87, .aload_n 0, 1), (88, .getfield 64, 3), (91, .getfield 311, 3), (94, .ireturn, 1), (95, .aload_n 0, 1), (96, .getfield 19, 3), (99, .getfield 89, 3), (102, .ifCond .eq 7, 3), (105, .iconst 1, 1), (106, .goto 4, 3), (109, .iconst 0, 1), (110, .ireturn, 1), (111, .iconst (-1), 1), (112, .ireturn, 1)] = true := by decide +kernel
def f_X11_many (p1 : Int32) (M : k_M) : Option (Int32 × k_M) := tsw p1 0 7 (fun i_ => if i_ = 0 then some (M.1 4 0, M) else if i_ = 1 then some (M.1 4 7, M) else if i_ = 2 then some (M.1 3 7, M) else if i_ = 3 then some (M.1 0 6, M) else if i_ = 4 then some (M.1 1 1, M) else if i_ = 5 then some (M.1 74 1, M) else if i_ = 6 then if (M.1 3 3) = 0 then some (0, M) else some (1, M) else some (-1, M)) (some (-1, M))
theorem m_X11_many_0 {Z : k_Z} {G : k_G} (C : k_C Z G RX11 cX11_many (true, 2, 1, 0, 0) (some .int) "many") (p1 : Int32) (M : k_M) : Sm Z G emI (true, 2, 1, 0, 0) (0, 0) 0 [(0, k_ra Z 0), (1, Value.int p1)] [] M (f_X11_many p1 M) := by
  show Sm Z G emI _ _ _ _ _ _ (tsw p1 0 7 (fun i_ => if i_ = 0 then some (M.1 4 0, M) else if i_ = 1 then some (M.1 4 7, M) else if i_ = 2 then some (M.1 3 7, M) else if i_ = 3 then some (M.1 0 6, M) else if i_ = 4 then some (M.1 1 1, M) else if i_ = 5 then some (M.1 74 1, M) else if i_ = 6 then if (M.1 3 3) = 0 then some (0, M) else some (1, M) else some (-1, M)) (some (-1, M)))
  refine x_iload_n C (k_dg dt_X11_many_0 0 0 (.iload_n 1) 1 rfl) 1 rfl ?_
  refine x_tsw C (n := 7) (tgt := 111) (k_dg dt_X11_many_0 1 1 (.tableswitch 110 0 6 #[43, 54, 65, 73, 78, 86, 94]) 43 rfl) (by decide) (by decide) (fun i_ => [44, 55, 66, 74, 79, 87, 95].getD i_ 0) (by decide) (fun i_ hi_ _ => ?_) ?_
  · match i_, hi_ with
    | 0, _ =>
      show Sm Z G emI _ _ 44 _ _ _ (some (M.1 4 0, M))
      refine x_aload_n C (k_dg dt_X11_many_0 2 44 (.aload_n 0) 1 rfl) 0 rfl ?_
      refine x_getR C (a := 0) (j := 1) 3 rfl rfl (by decide) fl_RX11_19 rfl rfl rfl (k_dg dt_X11_many_0 3 45 (.getfield 19) 3 rfl) ?_
      refine x_getR C (a := 3) (j := 0) 4 rfl rfl (by decide) fl_RX11_75 rfl rfl rfl (k_dg dt_X11_many_0 4 48 (.getfield 75) 3 rfl) ?_
      refine x_getI C (a := 4) (j := 0) rfl rfl (by decide) fl_RX11_92 rfl (k_dg dt_X11_many_0 5 51 (.getfield 92) 3 rfl) ?_
      exact x_iret C (by decide) (by decide) (k_dg dt_X11_many_0 6 54 (.ireturn) 1 rfl)
    | 1, _ =>
      show Sm Z G emI _ _ 55 _ _ _ (some (M.1 4 7, M))
      refine x_aload_n C (k_dg dt_X11_many_0 7 55 (.aload_n 0) 1 rfl) 0 rfl ?_
      refine x_getR C (a := 0) (j := 1) 3 rfl rfl (by decide) fl_RX11_19 rfl rfl rfl (k_dg dt_X11_many_0 8 56 (.getfield 19) 3 rfl) ?_
      refine x_getR C (a := 3) (j := 0) 4 rfl rfl (by decide) fl_RX11_75 rfl rfl rfl (k_dg dt_X11_many_0 9 59 (.getfield 75) 3 rfl) ?_
      refine x_getI C (a := 4) (j := 7) rfl rfl (by decide) fl_RX11_110 rfl (k_dg dt_X11_many_0 10 62 (.getfield 110) 3 rfl) ?_
      exact x_iret C (by decide) (by decide) (k_dg dt_X11_many_0 11 65 (.ireturn) 1 rfl)
    | 2, _ =>
      show Sm Z G emI _ _ 66 _ _ _ (some (M.1 3 7, M))
      refine x_aload_n C (k_dg dt_X11_many_0 12 66 (.aload_n 0) 1 rfl) 0 rfl ?_
      refine x_getR C (a := 0) (j := 1) 3 rfl rfl (by decide) fl_RX11_19 rfl rfl rfl (k_dg dt_X11_many_0 13 67 (.getfield 19) 3 rfl) ?_
      refine x_getI C (a := 3) (j := 7) rfl rfl (by decide) fl_RX11_237 rfl (k_dg dt_X11_many_0 14 70 (.getfield 237) 3 rfl) ?_
      exact x_iret C (by decide) (by decide) (k_dg dt_X11_many_0 15 73 (.ireturn) 1 rfl)
    | 3, _ =>
      show Sm Z G emI _ _ 74 _ _ _ (some (M.1 0 6, M))
      refine x_aload_n C (k_dg dt_X11_many_0 16 74 (.aload_n 0) 1 rfl) 0 rfl ?_
      refine x_getI C (a := 0) (j := 6) rfl rfl (by decide) fl_RX11_37 rfl (k_dg dt_X11_many_0 17 75 (.getfield 37) 3 rfl) ?_
      exact x_iret C (by decide) (by decide) (k_dg dt_X11_many_0 18 78 (.ireturn) 1 rfl)
    | 4, _ =>
      show Sm Z G emI _ _ 79 _ _ _ (some (M.1 1 1, M))
      refine x_aload_n C (k_dg dt_X11_many_0 19 79 (.aload_n 0) 1 rfl) 0 rfl ?_
      refine x_getR C (a := 0) (j := 0) 1 rfl rfl (by decide) fl_RX11_10 rfl rfl rfl (k_dg dt_X11_many_0 20 80 (.getfield 10) 3 rfl) ?_
      refine x_getI C (a := 1) (j := 1) rfl rfl (by decide) fl_RX11_72 rfl (k_dg dt_X11_many_0 21 83 (.getfield 72) 3 rfl) ?_
      exact x_iret C (by decide) (by decide) (k_dg dt_X11_many_0 22 86 (.ireturn) 1 rfl)
    | 5, _ =>
      show Sm Z G emI _ _ 87 _ _ _ (some (M.1 74 1, M))
      refine x_aload_n C (k_dg dt_X11_many_0 23 87 (.aload_n 0) 1 rfl) 0 rfl ?_
      refine x_getR C (a := 0) (j := 13) 74 rfl rfl (by decide) fl_RX11_64 rfl rfl rfl (k_dg dt_X11_many_0 24 88 (.getfield 64) 3 rfl) ?_
      refine x_getI C (a := 74) (j := 1) rfl rfl (by decide) fl_RX11_311 rfl (k_dg dt_X11_many_0 25 91 (.getfield 311) 3 rfl) ?_
      exact x_iret C (by decide) (by decide) (k_dg dt_X11_many_0 26 94 (.ireturn) 1 rfl)
    | 6, _ =>
      show Sm Z G emI _ _ 95 _ _ _ (if (M.1 3 3) = 0 then some (0, M) else some (1, M))
      refine x_aload_n C (k_dg dt_X11_many_0 27 95 (.aload_n 0) 1 rfl) 0 rfl ?_
      refine x_getR C (a := 0) (j := 1) 3 rfl rfl (by decide) fl_RX11_19 rfl rfl rfl (k_dg dt_X11_many_0 28 96 (.getfield 19) 3 rfl) ?_
      refine x_getI C (a := 3) (j := 3) rfl rfl (by decide) fl_RX11_89 rfl (k_dg dt_X11_many_0 29 99 (.getfield 89) 3 rfl) ?_
      refine x_if_eq C (tgt := 109) (k_dg dt_X11_many_0 30 102 (.ifCond .eq 7) 3 rfl) (by decide) (fun _ => ?_) (fun _ => ?_)
      · refine x_iconst C (v := 0) (k_dg dt_X11_many_0 33 109 (.iconst 0) 1 rfl) (by decide) ?_
        exact x_iret C (by decide) (by decide) (k_dg dt_X11_many_0 34 110 (.ireturn) 1 rfl)
      · refine x_iconst C (v := 1) (k_dg dt_X11_many_0 31 105 (.iconst 1) 1 rfl) (by decide) ?_
        refine x_goto C (tgt := 110) (k_dg dt_X11_many_0 32 106 (.goto 4) 3 rfl) (by decide) ?_
        exact x_iret C (by decide) (by decide) (k_dg dt_X11_many_0 34 110 (.ireturn) 1 rfl)
    | k + 7, h => exact absurd h (by omega)
  · refine x_iconst C (v := -1) (k_dg dt_X11_many_0 35 111 (.iconst (-1)) 1 rfl) (by decide) ?_
    exact x_iret C (by decide) (by decide) (k_dg dt_X11_many_0 36 112 (.ireturn) 1 rfl)
theorem c_X11_many {Z : k_Z} (hg : k_Gd Z) (l : Launch) (p1 : Int32) (M : k_M) : Con true Z l yX11_many cX11_many 2 (some .int) 1 0 0 emI [k_ra Z 0, Value.int p1] M (f_X11_many p1 M) := k_con hg (by decide) (Nat.le_of_ble_eq_true rfl) (fun G hl C => m_X11_many_0 C p1 M)
