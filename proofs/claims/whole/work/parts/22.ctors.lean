theorem cy_X10_init : k_cy yX10_init cX10_init 1 none 0 := ⟨List.mem_of_getElem? (i := 166) (by decide +kernel), List.mem_of_getElem? (i := 109) (by decide +kernel), ⟨by decide +kernel, by decide +kernel⟩, by decide +kernel⟩
theorem cy_X3_init : k_cy yX3_init cX3_init 1 none 0 := ⟨List.mem_of_getElem? (i := 172) (by decide +kernel), List.mem_of_getElem? (i := 110) (by decide +kernel), ⟨by decide +kernel, by decide +kernel⟩, by decide +kernel⟩
theorem cy_X7_init : k_cy yX7_init cX7_init 1 none 0 := ⟨List.mem_of_getElem? (i := 139) (by decide +kernel), List.mem_of_getElem? (i := 108) (by decide +kernel), ⟨by decide +kernel, by decide +kernel⟩, by decide +kernel⟩
theorem cy_X9_init : k_cy yX9_init cX9_init 1 none 0 := ⟨List.mem_of_getElem? (i := 308) (by decide +kernel), List.mem_of_getElem? (i := 111) (by decide +kernel), ⟨by decide +kernel, by decide +kernel⟩, by decide +kernel⟩
theorem lk_RX10_9 : k_lk RX10 9 yX3_init := Or.inr (List.mem_of_getElem? (i := 170) (by decide +kernel))
theorem lk_RX11_9 : k_lk RX11 9 yX7_init := Or.inr (List.mem_of_getElem? (i := 137) (by decide +kernel))
theorem lk_RX11_18 : k_lk RX11 18 yX10_init := Or.inr (List.mem_of_getElem? (i := 164) (by decide +kernel))
theorem lk_RX11_63 : k_lk RX11 63 yX9_init := Or.inr (List.mem_of_getElem? (i := 306) (by decide +kernel))
theorem im_X10_init : Cond.instanceMethod yX10_init ∈ lw_tbl := List.mem_of_getElem? (i := 165) (by decide +kernel)
theorem im_X3_init : Cond.instanceMethod yX3_init ∈ lw_tbl := List.mem_of_getElem? (i := 171) (by decide +kernel)
theorem im_X7_init : Cond.instanceMethod yX7_init ∈ lw_tbl := List.mem_of_getElem? (i := 138) (by decide +kernel)
theorem im_X9_init : Cond.instanceMethod yX9_init ∈ lw_tbl := List.mem_of_getElem? (i := 307) (by decide +kernel)
theorem df_2 : ∀ j, j < 16 → defaultValue (tyX3 j) = vp_V (k_fl 0 (fun _ => 0) (fun _ => 0) (fun _ => none) 0 (k_fty 2)) j := by decide +kernel
theorem df_5 : ∀ j, j < 6 → defaultValue (tyX7 j) = vp_V (k_fl 0 (fun _ => 0) (fun _ => 0) (fun _ => none) 0 (k_fty 5)) j := by decide +kernel
theorem df_7 : ∀ j, j < 3 → defaultValue (tyX9 j) = vp_V (k_fl 0 (fun _ => 0) (fun _ => 0) (fun _ => none) 0 (k_fty 7)) j := by decide +kernel
theorem df_8 : ∀ j, j < 10 → defaultValue (tyX10 j) = vp_V (k_fl 0 (fun _ => 0) (fun _ => 0) (fun _ => none) 0 (k_fty 8)) j := by decide +kernel
theorem cn_RX10_20 : Cond.methodLink RX10 20 ⟨"[I", "clone", "()Ljava/lang/Object;"⟩ ∈ lw_tbl := List.mem_of_getElem? (i := 248) (by decide +kernel)
theorem pq_RX10_10 : (∀ r, vwCl[8]? = some r → ((r.2.1 0).2.2.2 = true ∧ (r.2.1 0).1 = RX10) ∧ parseFieldDescriptor (r.2.1 0).2.2.1 = some (.object "WheelCity$Land")) ∧ (∀ r, vwCl[8]? = some r → Cond.fieldLink RX10 10 (r.2.1 0).1 (r.2.1 0).2.1 (r.2.1 0).2.2.1 ∈ lw_tbl) := ⟨fun r hr => by cases hr; exact ⟨⟨rfl, rfl⟩, by decide +kernel⟩, fun r hr => by cases hr; exact List.mem_of_getElem? (i := 257) (by decide +kernel)⟩
theorem pq_RX10_25 : (∀ r, vwCl[8]? = some r → ((r.2.1 1).2.2.2 = true ∧ (r.2.1 1).1 = RX10) ∧ parseFieldDescriptor (r.2.1 1).2.2.1 = some (.array .int)) ∧ (∀ r, vwCl[8]? = some r → Cond.fieldLink RX10 25 (r.2.1 1).1 (r.2.1 1).2.1 (r.2.1 1).2.2.1 ∈ lw_tbl) := ⟨fun r hr => by cases hr; exact ⟨⟨rfl, rfl⟩, by decide +kernel⟩, fun r hr => by cases hr; exact List.mem_of_getElem? (i := 260) (by decide +kernel)⟩
theorem pq_RX10_42 : (∀ r, vwCl[8]? = some r → ((r.2.1 6).2.2.2 = true ∧ (r.2.1 6).1 = RX10) ∧ parseFieldDescriptor (r.2.1 6).2.2.1 = some (.array .int)) ∧ (∀ r, vwCl[8]? = some r → Cond.fieldLink RX10 42 (r.2.1 6).1 (r.2.1 6).2.1 (r.2.1 6).2.2.1 ∈ lw_tbl) := ⟨fun r hr => by cases hr; exact ⟨⟨rfl, rfl⟩, by decide +kernel⟩, fun r hr => by cases hr; exact List.mem_of_getElem? (i := 272) (by decide +kernel)⟩
theorem pq_RX10_50 : (∀ r, vwCl[8]? = some r → ((r.2.1 8).2.2.2 = true ∧ (r.2.1 8).1 = RX10) ∧ parseFieldDescriptor (r.2.1 8).2.2.1 = some (.array (.object "WheelCity$Rule"))) ∧ (∀ r, vwCl[8]? = some r → Cond.fieldLink RX10 50 (r.2.1 8).1 (r.2.1 8).2.1 (r.2.1 8).2.2.1 ∈ lw_tbl) := ⟨fun r hr => by cases hr; exact ⟨⟨rfl, rfl⟩, by decide +kernel⟩, fun r hr => by cases hr; exact List.mem_of_getElem? (i := 276) (by decide +kernel)⟩
theorem pq_RX10_54 : (∀ r, vwCl[8]? = some r → ((r.2.1 9).2.2.2 = true ∧ (r.2.1 9).1 = RX10) ∧ parseFieldDescriptor (r.2.1 9).2.2.1 = some (.array .int)) ∧ (∀ r, vwCl[8]? = some r → Cond.fieldLink RX10 54 (r.2.1 9).1 (r.2.1 9).2.1 (r.2.1 9).2.2.1 ∈ lw_tbl) := ⟨fun r hr => by cases hr; exact ⟨⟨rfl, rfl⟩, by decide +kernel⟩, fun r hr => by cases hr; exact List.mem_of_getElem? (i := 278) (by decide +kernel)⟩
theorem pq_RX11_10 : (∀ r, vwCl[9]? = some r → ((r.2.1 0).2.2.2 = true ∧ (r.2.1 0).1 = RX11) ∧ parseFieldDescriptor (r.2.1 0).2.2.1 = some (.object "WheelCity$Tape")) ∧ (∀ r, vwCl[9]? = some r → Cond.fieldLink RX11 10 (r.2.1 0).1 (r.2.1 0).2.1 (r.2.1 0).2.2.1 ∈ lw_tbl) := ⟨fun r hr => by cases hr; exact ⟨⟨rfl, rfl⟩, by decide +kernel⟩, fun r hr => by cases hr; exact List.mem_of_getElem? (i := 327) (by decide +kernel)⟩
theorem pq_RX11_19 : (∀ r, vwCl[9]? = some r → ((r.2.1 1).2.2.2 = true ∧ (r.2.1 1).1 = RX11) ∧ parseFieldDescriptor (r.2.1 1).2.2.1 = some (.object "WheelCity$World")) ∧ (∀ r, vwCl[9]? = some r → Cond.fieldLink RX11 19 (r.2.1 1).1 (r.2.1 1).2.1 (r.2.1 1).2.2.1 ∈ lw_tbl) := ⟨fun r hr => by cases hr; exact ⟨⟨rfl, rfl⟩, by decide +kernel⟩, fun r hr => by cases hr; exact List.mem_of_getElem? (i := 328) (by decide +kernel)⟩
theorem pq_RX11_23 : (∀ r, vwCl[9]? = some r → ((r.2.1 2).2.2.2 = true ∧ (r.2.1 2).1 = RX11) ∧ parseFieldDescriptor (r.2.1 2).2.2.1 = some (.object "WheelCity$World")) ∧ (∀ r, vwCl[9]? = some r → Cond.fieldLink RX11 23 (r.2.1 2).1 (r.2.1 2).2.1 (r.2.1 2).2.2.1 ∈ lw_tbl) := ⟨fun r hr => by cases hr; exact ⟨⟨rfl, rfl⟩, by decide +kernel⟩, fun r hr => by cases hr; exact List.mem_of_getElem? (i := 329) (by decide +kernel)⟩
theorem pq_RX11_26 : (∀ r, vwCl[9]? = some r → ((r.2.1 3).2.2.2 = true ∧ (r.2.1 3).1 = RX11) ∧ parseFieldDescriptor (r.2.1 3).2.2.1 = some (.object "WheelCity$World")) ∧ (∀ r, vwCl[9]? = some r → Cond.fieldLink RX11 26 (r.2.1 3).1 (r.2.1 3).2.1 (r.2.1 3).2.2.1 ∈ lw_tbl) := ⟨fun r hr => by cases hr; exact ⟨⟨rfl, rfl⟩, by decide +kernel⟩, fun r hr => by cases hr; exact List.mem_of_getElem? (i := 330) (by decide +kernel)⟩
theorem pq_RX11_33 : (∀ r, vwCl[9]? = some r → ((r.2.1 5).2.2.2 = true ∧ (r.2.1 5).1 = RX11) ∧ parseFieldDescriptor (r.2.1 5).2.2.1 = some (.array .int)) ∧ (∀ r, vwCl[9]? = some r → Cond.fieldLink RX11 33 (r.2.1 5).1 (r.2.1 5).2.1 (r.2.1 5).2.2.1 ∈ lw_tbl) := ⟨fun r hr => by cases hr; exact ⟨⟨rfl, rfl⟩, by decide +kernel⟩, fun r hr => by cases hr; exact List.mem_of_getElem? (i := 332) (by decide +kernel)⟩
theorem pq_RX11_41 : (∀ r, vwCl[9]? = some r → ((r.2.1 7).2.2.2 = true ∧ (r.2.1 7).1 = RX11) ∧ parseFieldDescriptor (r.2.1 7).2.2.1 = some (.array .int)) ∧ (∀ r, vwCl[9]? = some r → Cond.fieldLink RX11 41 (r.2.1 7).1 (r.2.1 7).2.1 (r.2.1 7).2.2.1 ∈ lw_tbl) := ⟨fun r hr => by cases hr; exact ⟨⟨rfl, rfl⟩, by decide +kernel⟩, fun r hr => by cases hr; exact List.mem_of_getElem? (i := 334) (by decide +kernel)⟩
theorem pq_RX11_44 : (∀ r, vwCl[9]? = some r → ((r.2.1 8).2.2.2 = true ∧ (r.2.1 8).1 = RX11) ∧ parseFieldDescriptor (r.2.1 8).2.2.1 = some (.array .int)) ∧ (∀ r, vwCl[9]? = some r → Cond.fieldLink RX11 44 (r.2.1 8).1 (r.2.1 8).2.1 (r.2.1 8).2.2.1 ∈ lw_tbl) := ⟨fun r hr => by cases hr; exact ⟨⟨rfl, rfl⟩, by decide +kernel⟩, fun r hr => by cases hr; exact List.mem_of_getElem? (i := 335) (by decide +kernel)⟩
theorem pq_RX11_49 : (∀ r, vwCl[9]? = some r → ((r.2.1 9).2.2.2 = true ∧ (r.2.1 9).1 = RX11) ∧ parseFieldDescriptor (r.2.1 9).2.2.1 = some (.array (.array .long))) ∧ (∀ r, vwCl[9]? = some r → Cond.fieldLink RX11 49 (r.2.1 9).1 (r.2.1 9).2.1 (r.2.1 9).2.2.1 ∈ lw_tbl) := ⟨fun r hr => by cases hr; exact ⟨⟨rfl, rfl⟩, by decide +kernel⟩, fun r hr => by cases hr; exact List.mem_of_getElem? (i := 336) (by decide +kernel)⟩
theorem pq_RX11_52 : (∀ r, vwCl[9]? = some r → ((r.2.1 10).2.2.2 = true ∧ (r.2.1 10).1 = RX11) ∧ parseFieldDescriptor (r.2.1 10).2.2.1 = some (.array .int)) ∧ (∀ r, vwCl[9]? = some r → Cond.fieldLink RX11 52 (r.2.1 10).1 (r.2.1 10).2.1 (r.2.1 10).2.2.1 ∈ lw_tbl) := ⟨fun r hr => by cases hr; exact ⟨⟨rfl, rfl⟩, by decide +kernel⟩, fun r hr => by cases hr; exact List.mem_of_getElem? (i := 337) (by decide +kernel)⟩
theorem pq_RX11_55 : (∀ r, vwCl[9]? = some r → ((r.2.1 11).2.2.2 = true ∧ (r.2.1 11).1 = RX11) ∧ parseFieldDescriptor (r.2.1 11).2.2.1 = some (.array .int)) ∧ (∀ r, vwCl[9]? = some r → Cond.fieldLink RX11 55 (r.2.1 11).1 (r.2.1 11).2.1 (r.2.1 11).2.2.1 ∈ lw_tbl) := ⟨fun r hr => by cases hr; exact ⟨⟨rfl, rfl⟩, by decide +kernel⟩, fun r hr => by cases hr; exact List.mem_of_getElem? (i := 338) (by decide +kernel)⟩
theorem pq_RX11_58 : (∀ r, vwCl[9]? = some r → ((r.2.1 12).2.2.2 = true ∧ (r.2.1 12).1 = RX11) ∧ parseFieldDescriptor (r.2.1 12).2.2.1 = some (.array .int)) ∧ (∀ r, vwCl[9]? = some r → Cond.fieldLink RX11 58 (r.2.1 12).1 (r.2.1 12).2.1 (r.2.1 12).2.2.1 ∈ lw_tbl) := ⟨fun r hr => by cases hr; exact ⟨⟨rfl, rfl⟩, by decide +kernel⟩, fun r hr => by cases hr; exact List.mem_of_getElem? (i := 339) (by decide +kernel)⟩
theorem pq_RX11_64 : (∀ r, vwCl[9]? = some r → ((r.2.1 13).2.2.2 = true ∧ (r.2.1 13).1 = RX11) ∧ parseFieldDescriptor (r.2.1 13).2.2.1 = some (.object "WheelCity$Trace")) ∧ (∀ r, vwCl[9]? = some r → Cond.fieldLink RX11 64 (r.2.1 13).1 (r.2.1 13).2.1 (r.2.1 13).2.2.1 ∈ lw_tbl) := ⟨fun r hr => by cases hr; exact ⟨⟨rfl, rfl⟩, by decide +kernel⟩, fun r hr => by cases hr; exact List.mem_of_getElem? (i := 340) (by decide +kernel)⟩
theorem pq_RX12_7 : (∀ r, vwCl[10]? = some r → ((r.2.1 1).2.2.2 = true ∧ (r.2.1 1).1 = RX12) ∧ parseFieldDescriptor (r.2.1 1).2.2.1 = some (.array .int)) ∧ (∀ r, vwCl[10]? = some r → Cond.fieldLink RX12 7 (r.2.1 1).1 (r.2.1 1).2.1 (r.2.1 1).2.2.1 ∈ lw_tbl) := ⟨fun r hr => by cases hr; exact ⟨⟨rfl, rfl⟩, by decide +kernel⟩, fun r hr => by cases hr; exact List.mem_of_getElem? (i := 1097) (by decide +kernel)⟩
theorem pq_RX12_13 : (∀ r, vwCl[10]? = some r → ((r.2.1 3).2.2.2 = true ∧ (r.2.1 3).1 = RX12) ∧ parseFieldDescriptor (r.2.1 3).2.2.1 = some (.array .int)) ∧ (∀ r, vwCl[10]? = some r → Cond.fieldLink RX12 13 (r.2.1 3).1 (r.2.1 3).2.1 (r.2.1 3).2.2.1 ∈ lw_tbl) := ⟨fun r hr => by cases hr; exact ⟨⟨rfl, rfl⟩, by decide +kernel⟩, fun r hr => by cases hr; exact List.mem_of_getElem? (i := 1099) (by decide +kernel)⟩
theorem pq_RX12_16 : (∀ r, vwCl[10]? = some r → ((r.2.1 4).2.2.2 = true ∧ (r.2.1 4).1 = RX12) ∧ parseFieldDescriptor (r.2.1 4).2.2.1 = some (.array .int)) ∧ (∀ r, vwCl[10]? = some r → Cond.fieldLink RX12 16 (r.2.1 4).1 (r.2.1 4).2.1 (r.2.1 4).2.2.1 ∈ lw_tbl) := ⟨fun r hr => by cases hr; exact ⟨⟨rfl, rfl⟩, by decide +kernel⟩, fun r hr => by cases hr; exact List.mem_of_getElem? (i := 1100) (by decide +kernel)⟩
theorem pq_RX12_19 : (∀ r, vwCl[10]? = some r → ((r.2.1 5).2.2.2 = true ∧ (r.2.1 5).1 = RX12) ∧ parseFieldDescriptor (r.2.1 5).2.2.1 = some (.array .int)) ∧ (∀ r, vwCl[10]? = some r → Cond.fieldLink RX12 19 (r.2.1 5).1 (r.2.1 5).2.1 (r.2.1 5).2.2.1 ∈ lw_tbl) := ⟨fun r hr => by cases hr; exact ⟨⟨rfl, rfl⟩, by decide +kernel⟩, fun r hr => by cases hr; exact List.mem_of_getElem? (i := 1101) (by decide +kernel)⟩
theorem pq_RX12_22 : (∀ r, vwCl[10]? = some r → ((r.2.1 9).2.2.2 = true ∧ (r.2.1 9).1 = RX12) ∧ parseFieldDescriptor (r.2.1 9).2.2.1 = some (.array .int)) ∧ (∀ r, vwCl[10]? = some r → Cond.fieldLink RX12 22 (r.2.1 9).1 (r.2.1 9).2.1 (r.2.1 9).2.2.1 ∈ lw_tbl) := ⟨fun r hr => by cases hr; exact ⟨⟨rfl, rfl⟩, by decide +kernel⟩, fun r hr => by cases hr; exact List.mem_of_getElem? (i := 1105) (by decide +kernel)⟩
theorem pq_RX12_25 : (∀ r, vwCl[10]? = some r → ((r.2.1 10).2.2.2 = true ∧ (r.2.1 10).1 = RX12) ∧ parseFieldDescriptor (r.2.1 10).2.2.1 = some (.array .int)) ∧ (∀ r, vwCl[10]? = some r → Cond.fieldLink RX12 25 (r.2.1 10).1 (r.2.1 10).2.1 (r.2.1 10).2.2.1 ∈ lw_tbl) := ⟨fun r hr => by cases hr; exact ⟨⟨rfl, rfl⟩, by decide +kernel⟩, fun r hr => by cases hr; exact List.mem_of_getElem? (i := 1106) (by decide +kernel)⟩
theorem pq_RX12_28 : (∀ r, vwCl[10]? = some r → ((r.2.1 11).2.2.2 = true ∧ (r.2.1 11).1 = RX12) ∧ parseFieldDescriptor (r.2.1 11).2.2.1 = some (.array .int)) ∧ (∀ r, vwCl[10]? = some r → Cond.fieldLink RX12 28 (r.2.1 11).1 (r.2.1 11).2.1 (r.2.1 11).2.2.1 ∈ lw_tbl) := ⟨fun r hr => by cases hr; exact ⟨⟨rfl, rfl⟩, by decide +kernel⟩, fun r hr => by cases hr; exact List.mem_of_getElem? (i := 1107) (by decide +kernel)⟩
theorem pq_RX12_31 : (∀ r, vwCl[10]? = some r → ((r.2.1 21).2.2.2 = true ∧ (r.2.1 21).1 = RX12) ∧ parseFieldDescriptor (r.2.1 21).2.2.1 = some (.array .int)) ∧ (∀ r, vwCl[10]? = some r → Cond.fieldLink RX12 31 (r.2.1 21).1 (r.2.1 21).2.1 (r.2.1 21).2.2.1 ∈ lw_tbl) := ⟨fun r hr => by cases hr; exact ⟨⟨rfl, rfl⟩, by decide +kernel⟩, fun r hr => by cases hr; exact List.mem_of_getElem? (i := 1117) (by decide +kernel)⟩
theorem pq_RX12_34 : (∀ r, vwCl[10]? = some r → ((r.2.1 22).2.2.2 = true ∧ (r.2.1 22).1 = RX12) ∧ parseFieldDescriptor (r.2.1 22).2.2.1 = some (.array .int)) ∧ (∀ r, vwCl[10]? = some r → Cond.fieldLink RX12 34 (r.2.1 22).1 (r.2.1 22).2.1 (r.2.1 22).2.2.1 ∈ lw_tbl) := ⟨fun r hr => by cases hr; exact ⟨⟨rfl, rfl⟩, by decide +kernel⟩, fun r hr => by cases hr; exact List.mem_of_getElem? (i := 1118) (by decide +kernel)⟩
theorem pq_RX12_37 : (∀ r, vwCl[10]? = some r → ((r.2.1 23).2.2.2 = true ∧ (r.2.1 23).1 = RX12) ∧ parseFieldDescriptor (r.2.1 23).2.2.1 = some (.array .int)) ∧ (∀ r, vwCl[10]? = some r → Cond.fieldLink RX12 37 (r.2.1 23).1 (r.2.1 23).2.1 (r.2.1 23).2.2.1 ∈ lw_tbl) := ⟨fun r hr => by cases hr; exact ⟨⟨rfl, rfl⟩, by decide +kernel⟩, fun r hr => by cases hr; exact List.mem_of_getElem? (i := 1119) (by decide +kernel)⟩
theorem pq_RX12_40 : (∀ r, vwCl[10]? = some r → ((r.2.1 24).2.2.2 = true ∧ (r.2.1 24).1 = RX12) ∧ parseFieldDescriptor (r.2.1 24).2.2.1 = some (.array .int)) ∧ (∀ r, vwCl[10]? = some r → Cond.fieldLink RX12 40 (r.2.1 24).1 (r.2.1 24).2.1 (r.2.1 24).2.2.1 ∈ lw_tbl) := ⟨fun r hr => by cases hr; exact ⟨⟨rfl, rfl⟩, by decide +kernel⟩, fun r hr => by cases hr; exact List.mem_of_getElem? (i := 1120) (by decide +kernel)⟩
theorem pq_RX12_43 : (∀ r, vwCl[10]? = some r → ((r.2.1 25).2.2.2 = true ∧ (r.2.1 25).1 = RX12) ∧ parseFieldDescriptor (r.2.1 25).2.2.1 = some (.array .int)) ∧ (∀ r, vwCl[10]? = some r → Cond.fieldLink RX12 43 (r.2.1 25).1 (r.2.1 25).2.1 (r.2.1 25).2.2.1 ∈ lw_tbl) := ⟨fun r hr => by cases hr; exact ⟨⟨rfl, rfl⟩, by decide +kernel⟩, fun r hr => by cases hr; exact List.mem_of_getElem? (i := 1121) (by decide +kernel)⟩
theorem pq_RX12_46 : (∀ r, vwCl[10]? = some r → ((r.2.1 27).2.2.2 = true ∧ (r.2.1 27).1 = RX12) ∧ parseFieldDescriptor (r.2.1 27).2.2.1 = some (.array .int)) ∧ (∀ r, vwCl[10]? = some r → Cond.fieldLink RX12 46 (r.2.1 27).1 (r.2.1 27).2.1 (r.2.1 27).2.2.1 ∈ lw_tbl) := ⟨fun r hr => by cases hr; exact ⟨⟨rfl, rfl⟩, by decide +kernel⟩, fun r hr => by cases hr; exact List.mem_of_getElem? (i := 1123) (by decide +kernel)⟩
theorem pq_RX12_49 : (∀ r, vwCl[10]? = some r → ((r.2.1 28).2.2.2 = true ∧ (r.2.1 28).1 = RX12) ∧ parseFieldDescriptor (r.2.1 28).2.2.1 = some (.array .int)) ∧ (∀ r, vwCl[10]? = some r → Cond.fieldLink RX12 49 (r.2.1 28).1 (r.2.1 28).2.1 (r.2.1 28).2.2.1 ∈ lw_tbl) := ⟨fun r hr => by cases hr; exact ⟨⟨rfl, rfl⟩, by decide +kernel⟩, fun r hr => by cases hr; exact List.mem_of_getElem? (i := 1124) (by decide +kernel)⟩
theorem pq_RX12_52 : (∀ r, vwCl[10]? = some r → ((r.2.1 29).2.2.2 = true ∧ (r.2.1 29).1 = RX12) ∧ parseFieldDescriptor (r.2.1 29).2.2.1 = some (.array .int)) ∧ (∀ r, vwCl[10]? = some r → Cond.fieldLink RX12 52 (r.2.1 29).1 (r.2.1 29).2.1 (r.2.1 29).2.2.1 ∈ lw_tbl) := ⟨fun r hr => by cases hr; exact ⟨⟨rfl, rfl⟩, by decide +kernel⟩, fun r hr => by cases hr; exact List.mem_of_getElem? (i := 1125) (by decide +kernel)⟩
theorem pq_RX12_55 : (∀ r, vwCl[10]? = some r → ((r.2.1 30).2.2.2 = true ∧ (r.2.1 30).1 = RX12) ∧ parseFieldDescriptor (r.2.1 30).2.2.1 = some (.array .int)) ∧ (∀ r, vwCl[10]? = some r → Cond.fieldLink RX12 55 (r.2.1 30).1 (r.2.1 30).2.1 (r.2.1 30).2.2.1 ∈ lw_tbl) := ⟨fun r hr => by cases hr; exact ⟨⟨rfl, rfl⟩, by decide +kernel⟩, fun r hr => by cases hr; exact List.mem_of_getElem? (i := 1126) (by decide +kernel)⟩
theorem pq_RX12_58 : (∀ r, vwCl[10]? = some r → ((r.2.1 31).2.2.2 = true ∧ (r.2.1 31).1 = RX12) ∧ parseFieldDescriptor (r.2.1 31).2.2.1 = some (.array .int)) ∧ (∀ r, vwCl[10]? = some r → Cond.fieldLink RX12 58 (r.2.1 31).1 (r.2.1 31).2.1 (r.2.1 31).2.2.1 ∈ lw_tbl) := ⟨fun r hr => by cases hr; exact ⟨⟨rfl, rfl⟩, by decide +kernel⟩, fun r hr => by cases hr; exact List.mem_of_getElem? (i := 1127) (by decide +kernel)⟩
theorem pq_RX12_61 : (∀ r, vwCl[10]? = some r → ((r.2.1 34).2.2.2 = true ∧ (r.2.1 34).1 = RX12) ∧ parseFieldDescriptor (r.2.1 34).2.2.1 = some (.array .int)) ∧ (∀ r, vwCl[10]? = some r → Cond.fieldLink RX12 61 (r.2.1 34).1 (r.2.1 34).2.1 (r.2.1 34).2.2.1 ∈ lw_tbl) := ⟨fun r hr => by cases hr; exact ⟨⟨rfl, rfl⟩, by decide +kernel⟩, fun r hr => by cases hr; exact List.mem_of_getElem? (i := 1130) (by decide +kernel)⟩
theorem pq_RX12_64 : (∀ r, vwCl[10]? = some r → ((r.2.1 35).2.2.2 = true ∧ (r.2.1 35).1 = RX12) ∧ parseFieldDescriptor (r.2.1 35).2.2.1 = some (.array .int)) ∧ (∀ r, vwCl[10]? = some r → Cond.fieldLink RX12 64 (r.2.1 35).1 (r.2.1 35).2.1 (r.2.1 35).2.2.1 ∈ lw_tbl) := ⟨fun r hr => by cases hr; exact ⟨⟨rfl, rfl⟩, by decide +kernel⟩, fun r hr => by cases hr; exact List.mem_of_getElem? (i := 1131) (by decide +kernel)⟩
theorem pq_RX12_67 : (∀ r, vwCl[10]? = some r → ((r.2.1 37).2.2.2 = true ∧ (r.2.1 37).1 = RX12) ∧ parseFieldDescriptor (r.2.1 37).2.2.1 = some (.array .int)) ∧ (∀ r, vwCl[10]? = some r → Cond.fieldLink RX12 67 (r.2.1 37).1 (r.2.1 37).2.1 (r.2.1 37).2.2.1 ∈ lw_tbl) := ⟨fun r hr => by cases hr; exact ⟨⟨rfl, rfl⟩, by decide +kernel⟩, fun r hr => by cases hr; exact List.mem_of_getElem? (i := 1133) (by decide +kernel)⟩
theorem pq_RX12_70 : (∀ r, vwCl[10]? = some r → ((r.2.1 38).2.2.2 = true ∧ (r.2.1 38).1 = RX12) ∧ parseFieldDescriptor (r.2.1 38).2.2.1 = some (.array .int)) ∧ (∀ r, vwCl[10]? = some r → Cond.fieldLink RX12 70 (r.2.1 38).1 (r.2.1 38).2.1 (r.2.1 38).2.2.1 ∈ lw_tbl) := ⟨fun r hr => by cases hr; exact ⟨⟨rfl, rfl⟩, by decide +kernel⟩, fun r hr => by cases hr; exact List.mem_of_getElem? (i := 1134) (by decide +kernel)⟩
theorem pq_RX12_73 : (∀ r, vwCl[10]? = some r → ((r.2.1 39).2.2.2 = true ∧ (r.2.1 39).1 = RX12) ∧ parseFieldDescriptor (r.2.1 39).2.2.1 = some (.array .long)) ∧ (∀ r, vwCl[10]? = some r → Cond.fieldLink RX12 73 (r.2.1 39).1 (r.2.1 39).2.1 (r.2.1 39).2.2.1 ∈ lw_tbl) := ⟨fun r hr => by cases hr; exact ⟨⟨rfl, rfl⟩, by decide +kernel⟩, fun r hr => by cases hr; exact List.mem_of_getElem? (i := 1135) (by decide +kernel)⟩
theorem pq_RX12_77 : (∀ r, vwCl[10]? = some r → ((r.2.1 40).2.2.2 = true ∧ (r.2.1 40).1 = RX12) ∧ parseFieldDescriptor (r.2.1 40).2.2.1 = some (.array .int)) ∧ (∀ r, vwCl[10]? = some r → Cond.fieldLink RX12 77 (r.2.1 40).1 (r.2.1 40).2.1 (r.2.1 40).2.2.1 ∈ lw_tbl) := ⟨fun r hr => by cases hr; exact ⟨⟨rfl, rfl⟩, by decide +kernel⟩, fun r hr => by cases hr; exact List.mem_of_getElem? (i := 1136) (by decide +kernel)⟩
theorem pq_RX12_80 : (∀ r, vwCl[10]? = some r → ((r.2.1 41).2.2.2 = true ∧ (r.2.1 41).1 = RX12) ∧ parseFieldDescriptor (r.2.1 41).2.2.1 = some (.array .int)) ∧ (∀ r, vwCl[10]? = some r → Cond.fieldLink RX12 80 (r.2.1 41).1 (r.2.1 41).2.1 (r.2.1 41).2.2.1 ∈ lw_tbl) := ⟨fun r hr => by cases hr; exact ⟨⟨rfl, rfl⟩, by decide +kernel⟩, fun r hr => by cases hr; exact List.mem_of_getElem? (i := 1137) (by decide +kernel)⟩
theorem pq_RX12_83 : (∀ r, vwCl[10]? = some r → ((r.2.1 42).2.2.2 = true ∧ (r.2.1 42).1 = RX12) ∧ parseFieldDescriptor (r.2.1 42).2.2.1 = some (.array .int)) ∧ (∀ r, vwCl[10]? = some r → Cond.fieldLink RX12 83 (r.2.1 42).1 (r.2.1 42).2.1 (r.2.1 42).2.2.1 ∈ lw_tbl) := ⟨fun r hr => by cases hr; exact ⟨⟨rfl, rfl⟩, by decide +kernel⟩, fun r hr => by cases hr; exact List.mem_of_getElem? (i := 1138) (by decide +kernel)⟩
theorem pq_RX12_86 : (∀ r, vwCl[10]? = some r → ((r.2.1 46).2.2.2 = true ∧ (r.2.1 46).1 = RX12) ∧ parseFieldDescriptor (r.2.1 46).2.2.1 = some (.array .int)) ∧ (∀ r, vwCl[10]? = some r → Cond.fieldLink RX12 86 (r.2.1 46).1 (r.2.1 46).2.1 (r.2.1 46).2.2.1 ∈ lw_tbl) := ⟨fun r hr => by cases hr; exact ⟨⟨rfl, rfl⟩, by decide +kernel⟩, fun r hr => by cases hr; exact List.mem_of_getElem? (i := 1142) (by decide +kernel)⟩
theorem pq_RX12_89 : (∀ r, vwCl[10]? = some r → ((r.2.1 50).2.2.2 = true ∧ (r.2.1 50).1 = RX12) ∧ parseFieldDescriptor (r.2.1 50).2.2.1 = some (.array .int)) ∧ (∀ r, vwCl[10]? = some r → Cond.fieldLink RX12 89 (r.2.1 50).1 (r.2.1 50).2.1 (r.2.1 50).2.2.1 ∈ lw_tbl) := ⟨fun r hr => by cases hr; exact ⟨⟨rfl, rfl⟩, by decide +kernel⟩, fun r hr => by cases hr; exact List.mem_of_getElem? (i := 1146) (by decide +kernel)⟩
theorem pq_RX12_92 : (∀ r, vwCl[10]? = some r → ((r.2.1 52).2.2.2 = true ∧ (r.2.1 52).1 = RX12) ∧ parseFieldDescriptor (r.2.1 52).2.2.1 = some (.array .int)) ∧ (∀ r, vwCl[10]? = some r → Cond.fieldLink RX12 92 (r.2.1 52).1 (r.2.1 52).2.1 (r.2.1 52).2.2.1 ∈ lw_tbl) := ⟨fun r hr => by cases hr; exact ⟨⟨rfl, rfl⟩, by decide +kernel⟩, fun r hr => by cases hr; exact List.mem_of_getElem? (i := 1148) (by decide +kernel)⟩
theorem pq_RX3_13 : (∀ r, vwCl[2]? = some r → ((r.2.1 1).2.2.2 = true ∧ (r.2.1 1).1 = RX3) ∧ parseFieldDescriptor (r.2.1 1).2.2.1 = some (.array .int)) ∧ (∀ r, vwCl[2]? = some r → Cond.fieldLink RX3 13 (r.2.1 1).1 (r.2.1 1).2.1 (r.2.1 1).2.2.1 ∈ lw_tbl) := ⟨fun r hr => by cases hr; exact ⟨⟨rfl, rfl⟩, by decide +kernel⟩, fun r hr => by cases hr; exact List.mem_of_getElem? (i := 178) (by decide +kernel)⟩
theorem pq_RX3_17 : (∀ r, vwCl[2]? = some r → ((r.2.1 2).2.2.2 = true ∧ (r.2.1 2).1 = RX3) ∧ parseFieldDescriptor (r.2.1 2).2.2.1 = some (.array .int)) ∧ (∀ r, vwCl[2]? = some r → Cond.fieldLink RX3 17 (r.2.1 2).1 (r.2.1 2).2.1 (r.2.1 2).2.2.1 ∈ lw_tbl) := ⟨fun r hr => by cases hr; exact ⟨⟨rfl, rfl⟩, by decide +kernel⟩, fun r hr => by cases hr; exact List.mem_of_getElem? (i := 181) (by decide +kernel)⟩
theorem pq_RX3_20 : (∀ r, vwCl[2]? = some r → ((r.2.1 3).2.2.2 = true ∧ (r.2.1 3).1 = RX3) ∧ parseFieldDescriptor (r.2.1 3).2.2.1 = some (.array .int)) ∧ (∀ r, vwCl[2]? = some r → Cond.fieldLink RX3 20 (r.2.1 3).1 (r.2.1 3).2.1 (r.2.1 3).2.2.1 ∈ lw_tbl) := ⟨fun r hr => by cases hr; exact ⟨⟨rfl, rfl⟩, by decide +kernel⟩, fun r hr => by cases hr; exact List.mem_of_getElem? (i := 184) (by decide +kernel)⟩
theorem pq_RX3_23 : (∀ r, vwCl[2]? = some r → ((r.2.1 4).2.2.2 = true ∧ (r.2.1 4).1 = RX3) ∧ parseFieldDescriptor (r.2.1 4).2.2.1 = some (.array .int)) ∧ (∀ r, vwCl[2]? = some r → Cond.fieldLink RX3 23 (r.2.1 4).1 (r.2.1 4).2.1 (r.2.1 4).2.2.1 ∈ lw_tbl) := ⟨fun r hr => by cases hr; exact ⟨⟨rfl, rfl⟩, by decide +kernel⟩, fun r hr => by cases hr; exact List.mem_of_getElem? (i := 185) (by decide +kernel)⟩
theorem pq_RX3_26 : (∀ r, vwCl[2]? = some r → ((r.2.1 5).2.2.2 = true ∧ (r.2.1 5).1 = RX3) ∧ parseFieldDescriptor (r.2.1 5).2.2.1 = some (.array .int)) ∧ (∀ r, vwCl[2]? = some r → Cond.fieldLink RX3 26 (r.2.1 5).1 (r.2.1 5).2.1 (r.2.1 5).2.2.1 ∈ lw_tbl) := ⟨fun r hr => by cases hr; exact ⟨⟨rfl, rfl⟩, by decide +kernel⟩, fun r hr => by cases hr; exact List.mem_of_getElem? (i := 188) (by decide +kernel)⟩
theorem pq_RX3_29 : (∀ r, vwCl[2]? = some r → ((r.2.1 6).2.2.2 = true ∧ (r.2.1 6).1 = RX3) ∧ parseFieldDescriptor (r.2.1 6).2.2.1 = some (.array .int)) ∧ (∀ r, vwCl[2]? = some r → Cond.fieldLink RX3 29 (r.2.1 6).1 (r.2.1 6).2.1 (r.2.1 6).2.2.1 ∈ lw_tbl) := ⟨fun r hr => by cases hr; exact ⟨⟨rfl, rfl⟩, by decide +kernel⟩, fun r hr => by cases hr; exact List.mem_of_getElem? (i := 190) (by decide +kernel)⟩
theorem pq_RX3_35 : (∀ r, vwCl[2]? = some r → ((r.2.1 8).2.2.2 = true ∧ (r.2.1 8).1 = RX3) ∧ parseFieldDescriptor (r.2.1 8).2.2.1 = some (.array .int)) ∧ (∀ r, vwCl[2]? = some r → Cond.fieldLink RX3 35 (r.2.1 8).1 (r.2.1 8).2.1 (r.2.1 8).2.2.1 ∈ lw_tbl) := ⟨fun r hr => by cases hr; exact ⟨⟨rfl, rfl⟩, by decide +kernel⟩, fun r hr => by cases hr; exact List.mem_of_getElem? (i := 196) (by decide +kernel)⟩
theorem pq_RX3_38 : (∀ r, vwCl[2]? = some r → ((r.2.1 9).2.2.2 = true ∧ (r.2.1 9).1 = RX3) ∧ parseFieldDescriptor (r.2.1 9).2.2.1 = some (.array .int)) ∧ (∀ r, vwCl[2]? = some r → Cond.fieldLink RX3 38 (r.2.1 9).1 (r.2.1 9).2.1 (r.2.1 9).2.2.1 ∈ lw_tbl) := ⟨fun r hr => by cases hr; exact ⟨⟨rfl, rfl⟩, by decide +kernel⟩, fun r hr => by cases hr; exact List.mem_of_getElem? (i := 199) (by decide +kernel)⟩
theorem pq_RX3_41 : (∀ r, vwCl[2]? = some r → ((r.2.1 10).2.2.2 = true ∧ (r.2.1 10).1 = RX3) ∧ parseFieldDescriptor (r.2.1 10).2.2.1 = some (.array .int)) ∧ (∀ r, vwCl[2]? = some r → Cond.fieldLink RX3 41 (r.2.1 10).1 (r.2.1 10).2.1 (r.2.1 10).2.2.1 ∈ lw_tbl) := ⟨fun r hr => by cases hr; exact ⟨⟨rfl, rfl⟩, by decide +kernel⟩, fun r hr => by cases hr; exact List.mem_of_getElem? (i := 202) (by decide +kernel)⟩
theorem pq_RX3_44 : (∀ r, vwCl[2]? = some r → ((r.2.1 11).2.2.2 = true ∧ (r.2.1 11).1 = RX3) ∧ parseFieldDescriptor (r.2.1 11).2.2.1 = some (.array .int)) ∧ (∀ r, vwCl[2]? = some r → Cond.fieldLink RX3 44 (r.2.1 11).1 (r.2.1 11).2.1 (r.2.1 11).2.2.1 ∈ lw_tbl) := ⟨fun r hr => by cases hr; exact ⟨⟨rfl, rfl⟩, by decide +kernel⟩, fun r hr => by cases hr; exact List.mem_of_getElem? (i := 205) (by decide +kernel)⟩
theorem pq_RX3_47 : (∀ r, vwCl[2]? = some r → ((r.2.1 12).2.2.2 = true ∧ (r.2.1 12).1 = RX3) ∧ parseFieldDescriptor (r.2.1 12).2.2.1 = some (.array .int)) ∧ (∀ r, vwCl[2]? = some r → Cond.fieldLink RX3 47 (r.2.1 12).1 (r.2.1 12).2.1 (r.2.1 12).2.2.1 ∈ lw_tbl) := ⟨fun r hr => by cases hr; exact ⟨⟨rfl, rfl⟩, by decide +kernel⟩, fun r hr => by cases hr; exact List.mem_of_getElem? (i := 206) (by decide +kernel)⟩
theorem pq_RX3_50 : (∀ r, vwCl[2]? = some r → ((r.2.1 13).2.2.2 = true ∧ (r.2.1 13).1 = RX3) ∧ parseFieldDescriptor (r.2.1 13).2.2.1 = some (.array .int)) ∧ (∀ r, vwCl[2]? = some r → Cond.fieldLink RX3 50 (r.2.1 13).1 (r.2.1 13).2.1 (r.2.1 13).2.2.1 ∈ lw_tbl) := ⟨fun r hr => by cases hr; exact ⟨⟨rfl, rfl⟩, by decide +kernel⟩, fun r hr => by cases hr; exact List.mem_of_getElem? (i := 209) (by decide +kernel)⟩
theorem pq_RX3_53 : (∀ r, vwCl[2]? = some r → ((r.2.1 14).2.2.2 = true ∧ (r.2.1 14).1 = RX3) ∧ parseFieldDescriptor (r.2.1 14).2.2.1 = some (.array .int)) ∧ (∀ r, vwCl[2]? = some r → Cond.fieldLink RX3 53 (r.2.1 14).1 (r.2.1 14).2.1 (r.2.1 14).2.2.1 ∈ lw_tbl) := ⟨fun r hr => by cases hr; exact ⟨⟨rfl, rfl⟩, by decide +kernel⟩, fun r hr => by cases hr; exact List.mem_of_getElem? (i := 211) (by decide +kernel)⟩
theorem pq_RX3_56 : (∀ r, vwCl[2]? = some r → ((r.2.1 15).2.2.2 = true ∧ (r.2.1 15).1 = RX3) ∧ parseFieldDescriptor (r.2.1 15).2.2.1 = some (.array .int)) ∧ (∀ r, vwCl[2]? = some r → Cond.fieldLink RX3 56 (r.2.1 15).1 (r.2.1 15).2.1 (r.2.1 15).2.2.1 ∈ lw_tbl) := ⟨fun r hr => by cases hr; exact ⟨⟨rfl, rfl⟩, by decide +kernel⟩, fun r hr => by cases hr; exact List.mem_of_getElem? (i := 212) (by decide +kernel)⟩
theorem pq_RX7_9 : (∀ r, vwCl[5]? = some r → ((r.2.1 0).2.2.2 = true ∧ (r.2.1 0).1 = RX7) ∧ parseFieldDescriptor (r.2.1 0).2.2.1 = some (.array .int)) ∧ (∀ r, vwCl[5]? = some r → Cond.fieldLink RX7 9 (r.2.1 0).1 (r.2.1 0).2.1 (r.2.1 0).2.2.1 ∈ lw_tbl) := ⟨fun r hr => by cases hr; exact ⟨⟨rfl, rfl⟩, by decide +kernel⟩, fun r hr => by cases hr; exact List.mem_of_getElem? (i := 141) (by decide +kernel)⟩
theorem pq_RX9_9 : (∀ r, vwCl[7]? = some r → ((r.2.1 0).2.2.2 = true ∧ (r.2.1 0).1 = RX9) ∧ parseFieldDescriptor (r.2.1 0).2.2.1 = some (.array .int)) ∧ (∀ r, vwCl[7]? = some r → Cond.fieldLink RX9 9 (r.2.1 0).1 (r.2.1 0).2.1 (r.2.1 0).2.2.1 ∈ lw_tbl) := ⟨fun r hr => by cases hr; exact ⟨⟨rfl, rfl⟩, by decide +kernel⟩, fun r hr => by cases hr; exact List.mem_of_getElem? (i := 310) (by decide +kernel)⟩
theorem oi_RX10_1 : Cond.methodLink RX10 1 objectInit ∈ lw_tbl := List.mem_of_getElem? (i := 167) (by decide +kernel)
theorem oi_RX11_1 : Cond.methodLink RX11 1 objectInit ∈ lw_tbl := List.mem_of_getElem? (i := 132) (by decide +kernel)
theorem oi_RX12_1 : Cond.methodLink RX12 1 objectInit ∈ lw_tbl := List.mem_of_getElem? (i := 1095) (by decide +kernel)
theorem oi_RX3_1 : Cond.methodLink RX3 1 objectInit ∈ lw_tbl := List.mem_of_getElem? (i := 173) (by decide +kernel)
theorem oi_RX7_1 : Cond.methodLink RX7 1 objectInit ∈ lw_tbl := List.mem_of_getElem? (i := 140) (by decide +kernel)
theorem oi_RX9_1 : Cond.methodLink RX9 1 objectInit ∈ lw_tbl := List.mem_of_getElem? (i := 309) (by decide +kernel)
theorem nw_RX10_7 : Cond.classLink RX10 7 RX3 ∈ lw_tbl ∧ Cond.instantiable RX3 16 ∈ lw_tbl ∧ Cond.initialized RX3 ∈ lw_tbl := ⟨List.mem_of_getElem? (i := 168) (by decide +kernel), List.mem_of_getElem? (i := 169) (by decide +kernel), List.mem_of_getElem? (i := 110) (by decide +kernel)⟩
theorem nw_RX11_7 : Cond.classLink RX11 7 RX7 ∈ lw_tbl ∧ Cond.instantiable RX7 6 ∈ lw_tbl ∧ Cond.initialized RX7 ∈ lw_tbl := ⟨List.mem_of_getElem? (i := 135) (by decide +kernel), List.mem_of_getElem? (i := 136) (by decide +kernel), List.mem_of_getElem? (i := 108) (by decide +kernel)⟩
theorem nw_RX11_16 : Cond.classLink RX11 16 RX10 ∈ lw_tbl ∧ Cond.instantiable RX10 10 ∈ lw_tbl ∧ Cond.initialized RX10 ∈ lw_tbl := ⟨List.mem_of_getElem? (i := 162) (by decide +kernel), List.mem_of_getElem? (i := 163) (by decide +kernel), List.mem_of_getElem? (i := 109) (by decide +kernel)⟩
theorem nw_RX11_61 : Cond.classLink RX11 61 RX9 ∈ lw_tbl ∧ Cond.instantiable RX9 3 ∈ lw_tbl ∧ Cond.initialized RX9 ∈ lw_tbl := ⟨List.mem_of_getElem? (i := 304) (by decide +kernel), List.mem_of_getElem? (i := 305) (by decide +kernel), List.mem_of_getElem? (i := 111) (by decide +kernel)⟩
theorem cl_RX10_21 : Cond.classLink RX10 21 "[I" ∈ lw_tbl := List.mem_of_getElem? (i := 254) (by decide +kernel)
theorem cl_RX10_48 : Cond.classLink RX10 48 "WheelCity$Rule" ∈ lw_tbl := List.mem_of_getElem? (i := 255) (by decide +kernel)
theorem gs_RX10_16 : Cond.fieldLink RX10 16 (k_stN 1).1 (k_stN 1).2.1 "[I" ∈ lw_tbl ∨ Cond.fieldLinkNest RX10 16 (k_stN 1).1 (k_stN 1).2.1 "[I" "WheelCity" ∈ lw_tbl := Or.inl (List.mem_of_getElem? (i := 246) (by decide +kernel))
theorem dt_X3_init_0 : k_dec cX3_init [(0, .aload_n 0, 1), (1, .invokespecial 1, 3), (4, .aload_n 0, 1), (5, .iconst 0, 1), (6, .putfield 7, 3), (9, .aload_n 0, 1), (10, .bipush 8, 2), (12, .newarray .int, 2), (14, .putfield 13, 3), (17, .aload_n 0, 1), (18, .bipush 8, 2), (20, .newarray .int, 2), (22, .putfield 17, 3), (25, .aload_n 0, 1), (26, .bipush 8, 2), (28, .newarray .int, 2), (30, .putfield 20, 3), (33, .aload_n 0, 1), (34, .bipush 8, 2), (36, .newarray .int, 2), (38, .putfield 23, 3), (41, .aload_n 0, 1), (42, .bipush 8, 2), (44, .newarray .int, 2), (46, .putfield 26, 3), (49, .aload_n 0, 1), (50, .bipush 32, 2), (52, .newarray .int, 2), (54, .putfield 29, 3), (57, .aload_n 0, 1), (58, .iconst 0, 1), (59, .putfield 32, 3), (62, .aload_n 0, 1), (63, .bipush 12, 2), (65, .newarray .int, 2), (67, .putfield 35, 3), (70, .aload_n 0, 1), (71, .bipush 12, 2), (73, .newarray .int, 2), (75, .putfield 38, 3)] = true := by decide +kernel
theorem dt_X3_init_1 : k_dec cX3_init [(78, .aload_n 0, 1), (79, .bipush 12, 2), (81, .newarray .int, 2), (83, .putfield 41, 3), (86, .aload_n 0, 1), (87, .bipush 12, 2), (89, .newarray .int, 2), (91, .putfield 44, 3), (94, .aload_n 0, 1), (95, .bipush 12, 2), (97, .newarray .int, 2), (99, .putfield 47, 3), (102, .aload_n 0, 1), (103, .bipush 12, 2), (105, .newarray .int, 2), (107, .putfield 50, 3), (110, .aload_n 0, 1), (111, .bipush 8, 2), (113, .newarray .int, 2), (115, .putfield 53, 3), (118, .aload_n 0, 1), (119, .bipush 8, 2), (121, .newarray .int, 2), (123, .putfield 56, 3), (126, .return_, 1)] = true := by decide +kernel
def f_X3_init (a0 : Nat) (M : k_M) : Option (Unit × k_M) := pI0 M a0 2 0 0 (fun M1 => nwO M1 11 8 (fun q2 M3 => pR0 M3 a0 2 1 q2 (fun M4 => nwO M4 11 8 (fun q5 M6 => pR0 M6 a0 2 2 q5 (fun M7 => nwO M7 11 8 (fun q8 M9 => pR0 M9 a0 2 3 q8 (fun M10 => nwO M10 11 8 (fun q11 M12 => pR0 M12 a0 2 4 q11 (fun M13 => nwO M13 11 8 (fun q14 M15 => pR0 M15 a0 2 5 q14 (fun M16 => nwO M16 11 32 (fun q17 M18 => pR0 M18 a0 2 6 q17 (fun M19 => pI0 M19 a0 2 7 0 (fun M20 => nwO M20 11 12 (fun q21 M22 => pR0 M22 a0 2 8 q21 (fun M23 => nwO M23 11 12 (fun q24 M25 => pR0 M25 a0 2 9 q24 (fun M26 => nwO M26 11 12 (fun q27 M28 => pR0 M28 a0 2 10 q27 (fun M29 => nwO M29 11 12 (fun q30 M31 => pR0 M31 a0 2 11 q30 (fun M32 => nwO M32 11 12 (fun q33 M34 => pR0 M34 a0 2 12 q33 (fun M35 => nwO M35 11 12 (fun q36 M37 => pR0 M37 a0 2 13 q36 (fun M38 => nwO M38 11 8 (fun q39 M40 => pR0 M40 a0 2 14 q39 (fun M41 => nwO M41 11 8 (fun q42 M43 => pR0 M43 a0 2 15 q42 (fun M44 => some ((), M44)))))))))))))))))))))))))))))))
theorem m_X3_init_0 {Z : k_Z} {G : k_G} {a0 : Nat} (C : k_C Z G RX3 cX3_init (false, 1, 1, 14, 160) none "<init>") (M : k_M) : Sm Z G emV (false, 1, 1, 14, 160) (0, 0) 0 [(0, k_ra Z a0)] [] M (f_X3_init a0 M) := by
  show Sm Z G emV _ _ _ _ _ _ (pI0 M a0 2 0 0 (fun M1 => nwO M1 11 8 (fun q2 M3 => pR0 M3 a0 2 1 q2 (fun M4 => nwO M4 11 8 (fun q5 M6 => pR0 M6 a0 2 2 q5 (fun M7 => nwO M7 11 8 (fun q8 M9 => pR0 M9 a0 2 3 q8 (fun M10 => nwO M10 11 8 (fun q11 M12 => pR0 M12 a0 2 4 q11 (fun M13 => nwO M13 11 8 (fun q14 M15 => pR0 M15 a0 2 5 q14 (fun M16 => nwO M16 11 32 (fun q17 M18 => pR0 M18 a0 2 6 q17 (fun M19 => pI0 M19 a0 2 7 0 (fun M20 => nwO M20 11 12 (fun q21 M22 => pR0 M22 a0 2 8 q21 (fun M23 => nwO M23 11 12 (fun q24 M25 => pR0 M25 a0 2 9 q24 (fun M26 => nwO M26 11 12 (fun q27 M28 => pR0 M28 a0 2 10 q27 (fun M29 => nwO M29 11 12 (fun q30 M31 => pR0 M31 a0 2 11 q30 (fun M32 => nwO M32 11 12 (fun q33 M34 => pR0 M34 a0 2 12 q33 (fun M35 => nwO M35 11 12 (fun q36 M37 => pR0 M37 a0 2 13 q36 (fun M38 => nwO M38 11 8 (fun q39 M40 => pR0 M40 a0 2 14 q39 (fun M41 => nwO M41 11 8 (fun q42 M43 => pR0 M43 a0 2 15 q42 (fun M44 => some ((), M44))))))))))))))))))))))))))))))))
  refine x_aload_n C (k_dg dt_X3_init_0 0 0 (.aload_n 0) 1 rfl) 0 rfl ?_
  refine x_objI C oi_RX3_1 (by decide) (Nat.le_of_ble_eq_true rfl) (k_dg dt_X3_init_0 1 1 (.invokespecial 1) 3 rfl) ?_
  refine x_aload_n C (k_dg dt_X3_init_0 2 4 (.aload_n 0) 1 rfl) 0 rfl ?_
  refine x_iconst C (v := 0) (k_dg dt_X3_init_0 3 5 (.iconst 0) 1 rfl) (by decide) ?_
  refine x_putI0 C (kd := 2) (j := 0) rfl (by decide) fl_RX3_7 rfl pt_2_0 tb_2 rfl rfl (k_dg dt_X3_init_0 4 6 (.putfield 7) 3 rfl) (fun M1 => ?_)
  refine x_aload_n C (k_dg dt_X3_init_0 5 9 (.aload_n 0) 1 rfl) 0 rfl ?_
  refine x_bipush C (v := 8) (k_dg dt_X3_init_0 6 10 (.bipush 8) 2 rfl) (by decide) ?_
  refine x_newI0 C (N := 8) rfl (by decide) (by decide) (by decide) (by decide) (by decide) (k_dg dt_X3_init_0 7 12 (.newarray .int) 2 rfl) (fun q2 M3 => ?_)
  refine x_putR0 C (kd := 2) (j := 1) rfl rfl (by decide) fl_RX3_13 rfl tb_2 pq_RX3_13.1 pq_RX3_13.2 (fun _ => rfl) (fun _ => rfl) (k_dg dt_X3_init_0 8 14 (.putfield 13) 3 rfl) (fun M4 => ?_)
  refine x_aload_n C (k_dg dt_X3_init_0 9 17 (.aload_n 0) 1 rfl) 0 rfl ?_
  refine x_bipush C (v := 8) (k_dg dt_X3_init_0 10 18 (.bipush 8) 2 rfl) (by decide) ?_
  refine x_newI0 C (N := 8) rfl (by decide) (by decide) (by decide) (by decide) (by decide) (k_dg dt_X3_init_0 11 20 (.newarray .int) 2 rfl) (fun q5 M6 => ?_)
  refine x_putR0 C (kd := 2) (j := 2) rfl rfl (by decide) fl_RX3_17 rfl tb_2 pq_RX3_17.1 pq_RX3_17.2 (fun _ => rfl) (fun _ => rfl) (k_dg dt_X3_init_0 12 22 (.putfield 17) 3 rfl) (fun M7 => ?_)
  refine x_aload_n C (k_dg dt_X3_init_0 13 25 (.aload_n 0) 1 rfl) 0 rfl ?_
  refine x_bipush C (v := 8) (k_dg dt_X3_init_0 14 26 (.bipush 8) 2 rfl) (by decide) ?_
  refine x_newI0 C (N := 8) rfl (by decide) (by decide) (by decide) (by decide) (by decide) (k_dg dt_X3_init_0 15 28 (.newarray .int) 2 rfl) (fun q8 M9 => ?_)
  refine x_putR0 C (kd := 2) (j := 3) rfl rfl (by decide) fl_RX3_20 rfl tb_2 pq_RX3_20.1 pq_RX3_20.2 (fun _ => rfl) (fun _ => rfl) (k_dg dt_X3_init_0 16 30 (.putfield 20) 3 rfl) (fun M10 => ?_)
  refine x_aload_n C (k_dg dt_X3_init_0 17 33 (.aload_n 0) 1 rfl) 0 rfl ?_
  refine x_bipush C (v := 8) (k_dg dt_X3_init_0 18 34 (.bipush 8) 2 rfl) (by decide) ?_
  refine x_newI0 C (N := 8) rfl (by decide) (by decide) (by decide) (by decide) (by decide) (k_dg dt_X3_init_0 19 36 (.newarray .int) 2 rfl) (fun q11 M12 => ?_)
  refine x_putR0 C (kd := 2) (j := 4) rfl rfl (by decide) fl_RX3_23 rfl tb_2 pq_RX3_23.1 pq_RX3_23.2 (fun _ => rfl) (fun _ => rfl) (k_dg dt_X3_init_0 20 38 (.putfield 23) 3 rfl) (fun M13 => ?_)
  refine x_aload_n C (k_dg dt_X3_init_0 21 41 (.aload_n 0) 1 rfl) 0 rfl ?_
  refine x_bipush C (v := 8) (k_dg dt_X3_init_0 22 42 (.bipush 8) 2 rfl) (by decide) ?_
  refine x_newI0 C (N := 8) rfl (by decide) (by decide) (by decide) (by decide) (by decide) (k_dg dt_X3_init_0 23 44 (.newarray .int) 2 rfl) (fun q14 M15 => ?_)
  refine x_putR0 C (kd := 2) (j := 5) rfl rfl (by decide) fl_RX3_26 rfl tb_2 pq_RX3_26.1 pq_RX3_26.2 (fun _ => rfl) (fun _ => rfl) (k_dg dt_X3_init_0 24 46 (.putfield 26) 3 rfl) (fun M16 => ?_)
  refine x_aload_n C (k_dg dt_X3_init_0 25 49 (.aload_n 0) 1 rfl) 0 rfl ?_
  refine x_bipush C (v := 32) (k_dg dt_X3_init_0 26 50 (.bipush 32) 2 rfl) (by decide) ?_
  refine x_newI0 C (N := 32) rfl (by decide) (by decide) (by decide) (by decide) (by decide) (k_dg dt_X3_init_0 27 52 (.newarray .int) 2 rfl) (fun q17 M18 => ?_)
  refine x_putR0 C (kd := 2) (j := 6) rfl rfl (by decide) fl_RX3_29 rfl tb_2 pq_RX3_29.1 pq_RX3_29.2 (fun _ => rfl) (fun _ => rfl) (k_dg dt_X3_init_0 28 54 (.putfield 29) 3 rfl) (fun M19 => ?_)
  refine x_aload_n C (k_dg dt_X3_init_0 29 57 (.aload_n 0) 1 rfl) 0 rfl ?_
  refine x_iconst C (v := 0) (k_dg dt_X3_init_0 30 58 (.iconst 0) 1 rfl) (by decide) ?_
  refine x_putI0 C (kd := 2) (j := 7) rfl (by decide) fl_RX3_32 rfl pt_2_7 tb_2 rfl rfl (k_dg dt_X3_init_0 31 59 (.putfield 32) 3 rfl) (fun M20 => ?_)
  refine x_aload_n C (k_dg dt_X3_init_0 32 62 (.aload_n 0) 1 rfl) 0 rfl ?_
  refine x_bipush C (v := 12) (k_dg dt_X3_init_0 33 63 (.bipush 12) 2 rfl) (by decide) ?_
  refine x_newI0 C (N := 12) rfl (by decide) (by decide) (by decide) (by decide) (by decide) (k_dg dt_X3_init_0 34 65 (.newarray .int) 2 rfl) (fun q21 M22 => ?_)
  refine x_putR0 C (kd := 2) (j := 8) rfl rfl (by decide) fl_RX3_35 rfl tb_2 pq_RX3_35.1 pq_RX3_35.2 (fun _ => rfl) (fun _ => rfl) (k_dg dt_X3_init_0 35 67 (.putfield 35) 3 rfl) (fun M23 => ?_)
  refine x_aload_n C (k_dg dt_X3_init_0 36 70 (.aload_n 0) 1 rfl) 0 rfl ?_
  refine x_bipush C (v := 12) (k_dg dt_X3_init_0 37 71 (.bipush 12) 2 rfl) (by decide) ?_
  refine x_newI0 C (N := 12) rfl (by decide) (by decide) (by decide) (by decide) (by decide) (k_dg dt_X3_init_0 38 73 (.newarray .int) 2 rfl) (fun q24 M25 => ?_)
  refine x_putR0 C (kd := 2) (j := 9) rfl rfl (by decide) fl_RX3_38 rfl tb_2 pq_RX3_38.1 pq_RX3_38.2 (fun _ => rfl) (fun _ => rfl) (k_dg dt_X3_init_0 39 75 (.putfield 38) 3 rfl) (fun M26 => ?_)
  refine x_aload_n C (k_dg dt_X3_init_1 0 78 (.aload_n 0) 1 rfl) 0 rfl ?_
  refine x_bipush C (v := 12) (k_dg dt_X3_init_1 1 79 (.bipush 12) 2 rfl) (by decide) ?_
  refine x_newI0 C (N := 12) rfl (by decide) (by decide) (by decide) (by decide) (by decide) (k_dg dt_X3_init_1 2 81 (.newarray .int) 2 rfl) (fun q27 M28 => ?_)
  refine x_putR0 C (kd := 2) (j := 10) rfl rfl (by decide) fl_RX3_41 rfl tb_2 pq_RX3_41.1 pq_RX3_41.2 (fun _ => rfl) (fun _ => rfl) (k_dg dt_X3_init_1 3 83 (.putfield 41) 3 rfl) (fun M29 => ?_)
  refine x_aload_n C (k_dg dt_X3_init_1 4 86 (.aload_n 0) 1 rfl) 0 rfl ?_
  refine x_bipush C (v := 12) (k_dg dt_X3_init_1 5 87 (.bipush 12) 2 rfl) (by decide) ?_
  refine x_newI0 C (N := 12) rfl (by decide) (by decide) (by decide) (by decide) (by decide) (k_dg dt_X3_init_1 6 89 (.newarray .int) 2 rfl) (fun q30 M31 => ?_)
  refine x_putR0 C (kd := 2) (j := 11) rfl rfl (by decide) fl_RX3_44 rfl tb_2 pq_RX3_44.1 pq_RX3_44.2 (fun _ => rfl) (fun _ => rfl) (k_dg dt_X3_init_1 7 91 (.putfield 44) 3 rfl) (fun M32 => ?_)
  refine x_aload_n C (k_dg dt_X3_init_1 8 94 (.aload_n 0) 1 rfl) 0 rfl ?_
  refine x_bipush C (v := 12) (k_dg dt_X3_init_1 9 95 (.bipush 12) 2 rfl) (by decide) ?_
  refine x_newI0 C (N := 12) rfl (by decide) (by decide) (by decide) (by decide) (by decide) (k_dg dt_X3_init_1 10 97 (.newarray .int) 2 rfl) (fun q33 M34 => ?_)
  refine x_putR0 C (kd := 2) (j := 12) rfl rfl (by decide) fl_RX3_47 rfl tb_2 pq_RX3_47.1 pq_RX3_47.2 (fun _ => rfl) (fun _ => rfl) (k_dg dt_X3_init_1 11 99 (.putfield 47) 3 rfl) (fun M35 => ?_)
  refine x_aload_n C (k_dg dt_X3_init_1 12 102 (.aload_n 0) 1 rfl) 0 rfl ?_
  refine x_bipush C (v := 12) (k_dg dt_X3_init_1 13 103 (.bipush 12) 2 rfl) (by decide) ?_
  refine x_newI0 C (N := 12) rfl (by decide) (by decide) (by decide) (by decide) (by decide) (k_dg dt_X3_init_1 14 105 (.newarray .int) 2 rfl) (fun q36 M37 => ?_)
  refine x_putR0 C (kd := 2) (j := 13) rfl rfl (by decide) fl_RX3_50 rfl tb_2 pq_RX3_50.1 pq_RX3_50.2 (fun _ => rfl) (fun _ => rfl) (k_dg dt_X3_init_1 15 107 (.putfield 50) 3 rfl) (fun M38 => ?_)
  refine x_aload_n C (k_dg dt_X3_init_1 16 110 (.aload_n 0) 1 rfl) 0 rfl ?_
  refine x_bipush C (v := 8) (k_dg dt_X3_init_1 17 111 (.bipush 8) 2 rfl) (by decide) ?_
  refine x_newI0 C (N := 8) rfl (by decide) (by decide) (by decide) (by decide) (by decide) (k_dg dt_X3_init_1 18 113 (.newarray .int) 2 rfl) (fun q39 M40 => ?_)
  refine x_putR0 C (kd := 2) (j := 14) rfl rfl (by decide) fl_RX3_53 rfl tb_2 pq_RX3_53.1 pq_RX3_53.2 (fun _ => rfl) (fun _ => rfl) (k_dg dt_X3_init_1 19 115 (.putfield 53) 3 rfl) (fun M41 => ?_)
  refine x_aload_n C (k_dg dt_X3_init_1 20 118 (.aload_n 0) 1 rfl) 0 rfl ?_
  refine x_bipush C (v := 8) (k_dg dt_X3_init_1 21 119 (.bipush 8) 2 rfl) (by decide) ?_
  refine x_newI0 C (N := 8) rfl (by decide) (by decide) (by decide) (by decide) (by decide) (k_dg dt_X3_init_1 22 121 (.newarray .int) 2 rfl) (fun q42 M43 => ?_)
  refine x_putR0 C (kd := 2) (j := 15) rfl rfl (by decide) fl_RX3_56 rfl tb_2 pq_RX3_56.1 pq_RX3_56.2 (fun _ => rfl) (fun _ => rfl) (k_dg dt_X3_init_1 23 123 (.putfield 56) 3 rfl) (fun M44 => ?_)
  exact x_vret C (by decide) (by decide) (k_dg dt_X3_init_1 24 126 (.return_) 1 rfl)
theorem c_X3_init {Z : k_Z} (hg : k_Gd Z) (l : Launch) (a0 : Nat) (M : k_M) : Con false Z l yX3_init cX3_init 1 none 1 14 160 emV [k_ra Z a0] M (f_X3_init a0 M) := k_con hg (by decide) (Nat.le_of_ble_eq_true rfl) (fun G hl C => m_X3_init_0 C M)
theorem dt_X10_init_0 : k_dec cX10_init [(0, .aload_n 0, 1), (1, .invokespecial 1, 3), (4, .aload_n 0, 1), (5, .new 7, 3), (8, .dup, 1), (9, .invokespecial 9, 3), (12, .putfield 10, 3), (15, .aload_n 0, 1), (16, .getstatic 16, 3), (19, .invokevirtual 20, 3), (22, .checkcast 21, 3), (25, .putfield 25, 3), (28, .aload_n 0, 1), (29, .iconst 0, 1), (30, .putfield 28, 3), (33, .aload_n 0, 1), (34, .iconst 0, 1), (35, .putfield 32, 3), (38, .aload_n 0, 1), (39, .iconst 0, 1), (40, .putfield 36, 3), (43, .aload_n 0, 1), (44, .iconst 0, 1), (45, .putfield 39, 3), (48, .aload_n 0, 1), (49, .iconst 3, 1), (50, .newarray .int, 2), (52, .putfield 42, 3), (55, .aload_n 0, 1), (56, .iconst 0, 1), (57, .putfield 45, 3), (60, .aload_n 0, 1), (61, .iconst 4, 1), (62, .anewarray 48, 3), (65, .putfield 50, 3), (68, .aload_n 0, 1), (69, .iconst 4, 1), (70, .newarray .int, 2), (72, .putfield 54, 3), (75, .return_, 1)] = true := by decide +kernel
def f_X10_init (a0 : Nat) (M : k_M) : Option (Unit × k_M) := nwO M 2 0 (fun q1 M2 => bd (f_X3_init q1 M2) (fun r3 M4 => pR0 M4 a0 8 0 q1 (fun M5 => nwC M5 (fun q6 M7 => ckA M7 q6 13 (pR0 M7 a0 8 1 q6 (fun M8 => pI0 M8 a0 8 2 0 (fun M9 => pI0 M9 a0 8 3 0 (fun M10 => pI0 M10 a0 8 4 0 (fun M11 => pI0 M11 a0 8 5 0 (fun M12 => nwO M12 11 3 (fun q13 M14 => pR0 M14 a0 8 6 q13 (fun M15 => pI0 M15 a0 8 7 0 (fun M16 => nwO M16 13 4 (fun q17 M18 => pR0 M18 a0 8 8 q17 (fun M19 => nwO M19 11 4 (fun q20 M21 => pR0 M21 a0 8 9 q20 (fun M22 => some ((), M22))))))))))))))))))
theorem m_X10_init_0 {Z : k_Z} {G : k_G} {a0 : Nat} (C : k_C Z G RX10 cX10_init (false, 1, 2, 19, 200) none "<init>") (hLF : k_LF Z) (M : k_M) : Sm Z G emV (false, 1, 2, 19, 200) (0, 0) 0 [(0, k_ra Z a0)] [] M (f_X10_init a0 M) := by
  show Sm Z G emV _ _ _ _ _ _ (nwO M 2 0 (fun q1 M2 => bd (f_X3_init q1 M2) (fun r3 M4 => pR0 M4 a0 8 0 q1 (fun M5 => nwC M5 (fun q6 M7 => ckA M7 q6 13 (pR0 M7 a0 8 1 q6 (fun M8 => pI0 M8 a0 8 2 0 (fun M9 => pI0 M9 a0 8 3 0 (fun M10 => pI0 M10 a0 8 4 0 (fun M11 => pI0 M11 a0 8 5 0 (fun M12 => nwO M12 11 3 (fun q13 M14 => pR0 M14 a0 8 6 q13 (fun M15 => pI0 M15 a0 8 7 0 (fun M16 => nwO M16 13 4 (fun q17 M18 => pR0 M18 a0 8 8 q17 (fun M19 => nwO M19 11 4 (fun q20 M21 => pR0 M21 a0 8 9 q20 (fun M22 => some ((), M22)))))))))))))))))))
  refine x_aload_n C (k_dg dt_X10_init_0 0 0 (.aload_n 0) 1 rfl) 0 rfl ?_
  refine x_objI C oi_RX10_1 (by decide) (Nat.le_of_ble_eq_true rfl) (k_dg dt_X10_init_0 1 1 (.invokespecial 1) 3 rfl) ?_
  refine x_aload_n C (k_dg dt_X10_init_0 2 4 (.aload_n 0) 1 rfl) 0 rfl ?_
  refine x_new0 C (kd := 2) (N := 16) (r := (RX3, TX3, 16)) (ty := tyX3) rfl (by decide) rfl rfl tyX3_ok df_2 iu_2 nw_RX10_7.1 nw_RX10_7.2.1 nw_RX10_7.2.2 (by decide) (by decide) (k_dg dt_X10_init_0 3 5 (.new 7) 3 rfl) (fun q1 M2 => ?_)
  refine x_dup C (k_dg dt_X10_init_0 4 8 (.dup) 1 rfl) rfl ?_
  refine x_callI C (b := k_h Z + q1) (vs := []) (rest := [k_ra Z q1, k_ra Z a0]) (c_X3_init C.2.2.2.2.2.2.2.2.2 G.2.1 q1 M2) cy_X3_init lk_RX10_9 im_X3_init rfl (by decide) (by decide) (by decide) (by decide) rfl rfl (Nat.le_of_ble_eq_true rfl) (k_dg dt_X10_init_0 5 9 (.invokespecial 9) 3 rfl) (fun r3 M4 => ?_)
  show Sm Z G _ _ _ _ [(0, k_ra Z a0)] [k_ra Z q1, k_ra Z a0] _ _
  refine x_putR0 C (kd := 8) (j := 0) rfl rfl (by decide) fl_RX10_10 rfl tb_8 pq_RX10_10.1 pq_RX10_10.2 (fun _ => rfl) (fun _ => rfl) (k_dg dt_X10_init_0 6 12 (.putfield 10) 3 rfl) (fun M5 => ?_)
  refine x_aload_n C (k_dg dt_X10_init_0 7 15 (.aload_n 0) 1 rfl) 0 rfl ?_
  refine x_gets C (t := 1) (by decide) gs_RX10_16 (k_dg dt_X10_init_0 8 16 (.getstatic 16) 3 rfl) ?_
  refine x_clone0 C hLF rfl cn_RX10_20 (by decide) (Nat.le_of_ble_eq_true rfl) (by decide) (by decide) (k_dg dt_X10_init_0 9 19 (.invokevirtual 20) 3 rfl) (fun q6 M7 _ => ?_)
  refine x_castI0 C (n := 13) cl_RX10_21 (k_dg dt_X10_init_0 10 22 (.checkcast 21) 3 rfl) ?_
  refine x_putR0 C (kd := 8) (j := 1) rfl rfl (by decide) fl_RX10_25 rfl tb_8 pq_RX10_25.1 pq_RX10_25.2 (fun _ => rfl) (fun _ => rfl) (k_dg dt_X10_init_0 11 25 (.putfield 25) 3 rfl) (fun M8 => ?_)
  refine x_aload_n C (k_dg dt_X10_init_0 12 28 (.aload_n 0) 1 rfl) 0 rfl ?_
  refine x_iconst C (v := 0) (k_dg dt_X10_init_0 13 29 (.iconst 0) 1 rfl) (by decide) ?_
  refine x_putI0 C (kd := 8) (j := 2) rfl (by decide) fl_RX10_28 rfl pt_8_2 tb_8 rfl rfl (k_dg dt_X10_init_0 14 30 (.putfield 28) 3 rfl) (fun M9 => ?_)
  refine x_aload_n C (k_dg dt_X10_init_0 15 33 (.aload_n 0) 1 rfl) 0 rfl ?_
  refine x_iconst C (v := 0) (k_dg dt_X10_init_0 16 34 (.iconst 0) 1 rfl) (by decide) ?_
  refine x_putI0 C (kd := 8) (j := 3) rfl (by decide) fl_RX10_32 rfl pt_8_3 tb_8 rfl rfl (k_dg dt_X10_init_0 17 35 (.putfield 32) 3 rfl) (fun M10 => ?_)
  refine x_aload_n C (k_dg dt_X10_init_0 18 38 (.aload_n 0) 1 rfl) 0 rfl ?_
  refine x_iconst C (v := 0) (k_dg dt_X10_init_0 19 39 (.iconst 0) 1 rfl) (by decide) ?_
  refine x_putI0 C (kd := 8) (j := 4) rfl (by decide) fl_RX10_36 rfl pt_8_4 tb_8 rfl rfl (k_dg dt_X10_init_0 20 40 (.putfield 36) 3 rfl) (fun M11 => ?_)
  refine x_aload_n C (k_dg dt_X10_init_0 21 43 (.aload_n 0) 1 rfl) 0 rfl ?_
  refine x_iconst C (v := 0) (k_dg dt_X10_init_0 22 44 (.iconst 0) 1 rfl) (by decide) ?_
  refine x_putI0 C (kd := 8) (j := 5) rfl (by decide) fl_RX10_39 rfl pt_8_5 tb_8 rfl rfl (k_dg dt_X10_init_0 23 45 (.putfield 39) 3 rfl) (fun M12 => ?_)
  refine x_aload_n C (k_dg dt_X10_init_0 24 48 (.aload_n 0) 1 rfl) 0 rfl ?_
  refine x_iconst C (v := 3) (k_dg dt_X10_init_0 25 49 (.iconst 3) 1 rfl) (by decide) ?_
  refine x_newI0 C (N := 3) rfl (by decide) (by decide) (by decide) (by decide) (by decide) (k_dg dt_X10_init_0 26 50 (.newarray .int) 2 rfl) (fun q13 M14 => ?_)
  refine x_putR0 C (kd := 8) (j := 6) rfl rfl (by decide) fl_RX10_42 rfl tb_8 pq_RX10_42.1 pq_RX10_42.2 (fun _ => rfl) (fun _ => rfl) (k_dg dt_X10_init_0 27 52 (.putfield 42) 3 rfl) (fun M15 => ?_)
  refine x_aload_n C (k_dg dt_X10_init_0 28 55 (.aload_n 0) 1 rfl) 0 rfl ?_
  refine x_iconst C (v := 0) (k_dg dt_X10_init_0 29 56 (.iconst 0) 1 rfl) (by decide) ?_
  refine x_putI0 C (kd := 8) (j := 7) rfl (by decide) fl_RX10_45 rfl pt_8_7 tb_8 rfl rfl (k_dg dt_X10_init_0 30 57 (.putfield 45) 3 rfl) (fun M16 => ?_)
  refine x_aload_n C (k_dg dt_X10_init_0 31 60 (.aload_n 0) 1 rfl) 0 rfl ?_
  refine x_iconst C (v := 4) (k_dg dt_X10_init_0 32 61 (.iconst 4) 1 rfl) (by decide) ?_
  refine x_newQ0 C rfl cl_RX10_48 (by decide) (by decide) (k_dg dt_X10_init_0 33 62 (.anewarray 48) 3 rfl) (fun q17 M18 => ?_)
  refine x_putR0 C (kd := 8) (j := 8) rfl rfl (by decide) fl_RX10_50 rfl tb_8 pq_RX10_50.1 pq_RX10_50.2 (fun _ => rfl) (fun _ => rfl) (k_dg dt_X10_init_0 34 65 (.putfield 50) 3 rfl) (fun M19 => ?_)
  refine x_aload_n C (k_dg dt_X10_init_0 35 68 (.aload_n 0) 1 rfl) 0 rfl ?_
  refine x_iconst C (v := 4) (k_dg dt_X10_init_0 36 69 (.iconst 4) 1 rfl) (by decide) ?_
  refine x_newI0 C (N := 4) rfl (by decide) (by decide) (by decide) (by decide) (by decide) (k_dg dt_X10_init_0 37 70 (.newarray .int) 2 rfl) (fun q20 M21 => ?_)
  refine x_putR0 C (kd := 8) (j := 9) rfl rfl (by decide) fl_RX10_54 rfl tb_8 pq_RX10_54.1 pq_RX10_54.2 (fun _ => rfl) (fun _ => rfl) (k_dg dt_X10_init_0 38 72 (.putfield 54) 3 rfl) (fun M22 => ?_)
  exact x_vret C (by decide) (by decide) (k_dg dt_X10_init_0 39 75 (.return_) 1 rfl)
theorem c_X10_init {Z : k_Z} (hg : k_Gd Z) (l : Launch) (hLF : k_LF Z) (a0 : Nat) (M : k_M) : Con false Z l yX10_init cX10_init 1 none 2 19 200 emV [k_ra Z a0] M (f_X10_init a0 M) := k_con hg (by decide) (Nat.le_of_ble_eq_true rfl) (fun G hl C => m_X10_init_0 C hLF M)
theorem dt_X7_init_0 : k_dec cX7_init [(0, .aload_n 0, 1), (1, .invokespecial 1, 3), (4, .aload_n 0, 1), (5, .sipush 200, 3), (8, .newarray .int, 2), (10, .putfield 9, 3), (13, .aload_n 0, 1), (14, .iconst 0, 1), (15, .putfield 13, 3), (18, .aload_n 0, 1), (19, .iconst 0, 1), (20, .putfield 17, 3), (23, .aload_n 0, 1), (24, .iconst 0, 1), (25, .putfield 20, 3), (28, .aload_n 0, 1), (29, .iconst 0, 1), (30, .putfield 23, 3), (33, .aload_n 0, 1), (34, .iconst 0, 1), (35, .putfield 26, 3), (38, .return_, 1)] = true := by decide +kernel
def f_X7_init (a0 : Nat) (M : k_M) : Option (Unit × k_M) := nwO M 11 200 (fun q1 M2 => pR0 M2 a0 5 0 q1 (fun M3 => pI0 M3 a0 5 1 0 (fun M4 => pI0 M4 a0 5 2 0 (fun M5 => pI0 M5 a0 5 3 0 (fun M6 => pI0 M6 a0 5 4 0 (fun M7 => pI0 M7 a0 5 5 0 (fun M8 => some ((), M8))))))))
theorem m_X7_init_0 {Z : k_Z} {G : k_G} {a0 : Nat} (C : k_C Z G RX7 cX7_init (false, 1, 1, 1, 200) none "<init>") (M : k_M) : Sm Z G emV (false, 1, 1, 1, 200) (0, 0) 0 [(0, k_ra Z a0)] [] M (f_X7_init a0 M) := by
  show Sm Z G emV _ _ _ _ _ _ (nwO M 11 200 (fun q1 M2 => pR0 M2 a0 5 0 q1 (fun M3 => pI0 M3 a0 5 1 0 (fun M4 => pI0 M4 a0 5 2 0 (fun M5 => pI0 M5 a0 5 3 0 (fun M6 => pI0 M6 a0 5 4 0 (fun M7 => pI0 M7 a0 5 5 0 (fun M8 => some ((), M8)))))))))
  refine x_aload_n C (k_dg dt_X7_init_0 0 0 (.aload_n 0) 1 rfl) 0 rfl ?_
  refine x_objI C oi_RX7_1 (by decide) (Nat.le_of_ble_eq_true rfl) (k_dg dt_X7_init_0 1 1 (.invokespecial 1) 3 rfl) ?_
  refine x_aload_n C (k_dg dt_X7_init_0 2 4 (.aload_n 0) 1 rfl) 0 rfl ?_
  refine x_sipush C (v := 200) (k_dg dt_X7_init_0 3 5 (.sipush 200) 3 rfl) (by decide) ?_
  refine x_newI0 C (N := 200) rfl (by decide) (by decide) (by decide) (by decide) (by decide) (k_dg dt_X7_init_0 4 8 (.newarray .int) 2 rfl) (fun q1 M2 => ?_)
  refine x_putR0 C (kd := 5) (j := 0) rfl rfl (by decide) fl_RX7_9 rfl tb_5 pq_RX7_9.1 pq_RX7_9.2 (fun _ => rfl) (fun _ => rfl) (k_dg dt_X7_init_0 5 10 (.putfield 9) 3 rfl) (fun M3 => ?_)
  refine x_aload_n C (k_dg dt_X7_init_0 6 13 (.aload_n 0) 1 rfl) 0 rfl ?_
  refine x_iconst C (v := 0) (k_dg dt_X7_init_0 7 14 (.iconst 0) 1 rfl) (by decide) ?_
  refine x_putI0 C (kd := 5) (j := 1) rfl (by decide) fl_RX7_13 rfl pt_5_1 tb_5 rfl rfl (k_dg dt_X7_init_0 8 15 (.putfield 13) 3 rfl) (fun M4 => ?_)
  refine x_aload_n C (k_dg dt_X7_init_0 9 18 (.aload_n 0) 1 rfl) 0 rfl ?_
  refine x_iconst C (v := 0) (k_dg dt_X7_init_0 10 19 (.iconst 0) 1 rfl) (by decide) ?_
  refine x_putI0 C (kd := 5) (j := 2) rfl (by decide) fl_RX7_17 rfl pt_5_2 tb_5 rfl rfl (k_dg dt_X7_init_0 11 20 (.putfield 17) 3 rfl) (fun M5 => ?_)
  refine x_aload_n C (k_dg dt_X7_init_0 12 23 (.aload_n 0) 1 rfl) 0 rfl ?_
  refine x_iconst C (v := 0) (k_dg dt_X7_init_0 13 24 (.iconst 0) 1 rfl) (by decide) ?_
  refine x_putI0 C (kd := 5) (j := 3) rfl (by decide) fl_RX7_20 rfl pt_5_3 tb_5 rfl rfl (k_dg dt_X7_init_0 14 25 (.putfield 20) 3 rfl) (fun M6 => ?_)
  refine x_aload_n C (k_dg dt_X7_init_0 15 28 (.aload_n 0) 1 rfl) 0 rfl ?_
  refine x_iconst C (v := 0) (k_dg dt_X7_init_0 16 29 (.iconst 0) 1 rfl) (by decide) ?_
  refine x_putI0 C (kd := 5) (j := 4) rfl (by decide) fl_RX7_23 rfl pt_5_4 tb_5 rfl rfl (k_dg dt_X7_init_0 17 30 (.putfield 23) 3 rfl) (fun M7 => ?_)
  refine x_aload_n C (k_dg dt_X7_init_0 18 33 (.aload_n 0) 1 rfl) 0 rfl ?_
  refine x_iconst C (v := 0) (k_dg dt_X7_init_0 19 34 (.iconst 0) 1 rfl) (by decide) ?_
  refine x_putI0 C (kd := 5) (j := 5) rfl (by decide) fl_RX7_26 rfl pt_5_5 tb_5 rfl rfl (k_dg dt_X7_init_0 20 35 (.putfield 26) 3 rfl) (fun M8 => ?_)
  exact x_vret C (by decide) (by decide) (k_dg dt_X7_init_0 21 38 (.return_) 1 rfl)
theorem c_X7_init {Z : k_Z} (hg : k_Gd Z) (l : Launch) (a0 : Nat) (M : k_M) : Con false Z l yX7_init cX7_init 1 none 1 1 200 emV [k_ra Z a0] M (f_X7_init a0 M) := k_con hg (by decide) (Nat.le_of_ble_eq_true rfl) (fun G hl C => m_X7_init_0 C M)
theorem dt_X9_init_0 : k_dec cX9_init [(0, .aload_n 0, 1), (1, .invokespecial 1, 3), (4, .aload_n 0, 1), (5, .bipush 30, 2), (7, .newarray .int, 2), (9, .putfield 9, 3), (12, .aload_n 0, 1), (13, .iconst 0, 1), (14, .putfield 13, 3), (17, .aload_n 0, 1), (18, .iconst 0, 1), (19, .putfield 17, 3), (22, .return_, 1)] = true := by decide +kernel
def f_X9_init (a0 : Nat) (M : k_M) : Option (Unit × k_M) := nwO M 11 30 (fun q1 M2 => pR0 M2 a0 7 0 q1 (fun M3 => pI0 M3 a0 7 1 0 (fun M4 => pI0 M4 a0 7 2 0 (fun M5 => some ((), M5)))))
theorem m_X9_init_0 {Z : k_Z} {G : k_G} {a0 : Nat} (C : k_C Z G RX9 cX9_init (false, 1, 1, 1, 30) none "<init>") (M : k_M) : Sm Z G emV (false, 1, 1, 1, 30) (0, 0) 0 [(0, k_ra Z a0)] [] M (f_X9_init a0 M) := by
  show Sm Z G emV _ _ _ _ _ _ (nwO M 11 30 (fun q1 M2 => pR0 M2 a0 7 0 q1 (fun M3 => pI0 M3 a0 7 1 0 (fun M4 => pI0 M4 a0 7 2 0 (fun M5 => some ((), M5))))))
  refine x_aload_n C (k_dg dt_X9_init_0 0 0 (.aload_n 0) 1 rfl) 0 rfl ?_
  refine x_objI C oi_RX9_1 (by decide) (Nat.le_of_ble_eq_true rfl) (k_dg dt_X9_init_0 1 1 (.invokespecial 1) 3 rfl) ?_
  refine x_aload_n C (k_dg dt_X9_init_0 2 4 (.aload_n 0) 1 rfl) 0 rfl ?_
  refine x_bipush C (v := 30) (k_dg dt_X9_init_0 3 5 (.bipush 30) 2 rfl) (by decide) ?_
  refine x_newI0 C (N := 30) rfl (by decide) (by decide) (by decide) (by decide) (by decide) (k_dg dt_X9_init_0 4 7 (.newarray .int) 2 rfl) (fun q1 M2 => ?_)
  refine x_putR0 C (kd := 7) (j := 0) rfl rfl (by decide) fl_RX9_9 rfl tb_7 pq_RX9_9.1 pq_RX9_9.2 (fun _ => rfl) (fun _ => rfl) (k_dg dt_X9_init_0 5 9 (.putfield 9) 3 rfl) (fun M3 => ?_)
  refine x_aload_n C (k_dg dt_X9_init_0 6 12 (.aload_n 0) 1 rfl) 0 rfl ?_
  refine x_iconst C (v := 0) (k_dg dt_X9_init_0 7 13 (.iconst 0) 1 rfl) (by decide) ?_
  refine x_putI0 C (kd := 7) (j := 1) rfl (by decide) fl_RX9_13 rfl pt_7_1 tb_7 rfl rfl (k_dg dt_X9_init_0 8 14 (.putfield 13) 3 rfl) (fun M4 => ?_)
  refine x_aload_n C (k_dg dt_X9_init_0 9 17 (.aload_n 0) 1 rfl) 0 rfl ?_
  refine x_iconst C (v := 0) (k_dg dt_X9_init_0 10 18 (.iconst 0) 1 rfl) (by decide) ?_
  refine x_putI0 C (kd := 7) (j := 2) rfl (by decide) fl_RX9_17 rfl pt_7_2 tb_7 rfl rfl (k_dg dt_X9_init_0 11 19 (.putfield 17) 3 rfl) (fun M5 => ?_)
  exact x_vret C (by decide) (by decide) (k_dg dt_X9_init_0 12 22 (.return_) 1 rfl)
theorem c_X9_init {Z : k_Z} (hg : k_Gd Z) (l : Launch) (a0 : Nat) (M : k_M) : Con false Z l yX9_init cX9_init 1 none 1 1 30 emV [k_ra Z a0] M (f_X9_init a0 M) := k_con hg (by decide) (Nat.le_of_ble_eq_true rfl) (fun G hl C => m_X9_init_0 C M)
theorem dt_X11_init_0 : k_dec cX11_init [(0, .aload_n 0, 1), (1, .invokespecial 1, 3), (4, .aload_n 0, 1), (5, .new 7, 3), (8, .dup, 1), (9, .invokespecial 9, 3), (12, .putfield 10, 3), (15, .aload_n 0, 1), (16, .new 16, 3), (19, .dup, 1), (20, .invokespecial 18, 3), (23, .putfield 19, 3), (26, .aload_n 0, 1), (27, .new 16, 3), (30, .dup, 1), (31, .invokespecial 18, 3), (34, .putfield 23, 3), (37, .aload_n 0, 1), (38, .new 16, 3), (41, .dup, 1), (42, .invokespecial 18, 3), (45, .putfield 26, 3), (48, .aload_n 0, 1), (49, .iconst 0, 1), (50, .putfield 29, 3), (53, .aload_n 0, 1), (54, .bipush 18, 2), (56, .newarray .int, 2), (58, .putfield 33, 3), (61, .aload_n 0, 1), (62, .iconst 0, 1), (63, .putfield 37, 3), (66, .aload_n 0, 1), (67, .iconst 4, 1), (68, .newarray .int, 2), (70, .dup, 1), (71, .iconst 0, 1), (72, .iconst (-1), 1), (73, .iastore, 1), (74, .dup, 1)] = true := by decide +kernel
theorem dt_X11_init_1 : k_dec cX11_init [(75, .iconst 1, 1), (76, .iconst (-1), 1), (77, .iastore, 1), (78, .dup, 1), (79, .iconst 2, 1), (80, .iconst (-1), 1), (81, .iastore, 1), (82, .dup, 1), (83, .iconst 3, 1), (84, .iconst (-1), 1), (85, .iastore, 1), (86, .putfield 41, 3), (89, .aload_n 0, 1), (90, .iconst 4, 1), (91, .newarray .int, 2), (93, .putfield 44, 3), (96, .aload_n 0, 1), (97, .iconst 4, 1), (98, .bipush 40, 2), (100, .multianewarray 47 2, 4), (104, .putfield 49, 3), (107, .aload_n 0, 1), (108, .iconst 4, 1), (109, .newarray .int, 2), (111, .putfield 52, 3), (114, .aload_n 0, 1), (115, .iconst 4, 1), (116, .newarray .int, 2), (118, .putfield 55, 3), (121, .aload_n 0, 1), (122, .iconst 4, 1), (123, .newarray .int, 2), (125, .putfield 58, 3), (128, .aload_n 0, 1), (129, .new 61, 3), (132, .dup, 1), (133, .invokespecial 63, 3), (136, .putfield 64, 3), (139, .return_, 1)] = true := by decide +kernel
def f_X11_init (a0 : Nat) (M : k_M) : Option (Unit × k_M) := nwO M 5 0 (fun q1 M2 => bd (f_X7_init q1 M2) (fun r3 M4 => pR0 M4 a0 9 0 q1 (fun M5 => nwO M5 8 0 (fun q6 M7 => bd (f_X10_init q6 M7) (fun r8 M9 => pR0 M9 a0 9 1 q6 (fun M10 => nwO M10 8 0 (fun q11 M12 => bd (f_X10_init q11 M12) (fun r13 M14 => pR0 M14 a0 9 2 q11 (fun M15 => nwO M15 8 0 (fun q16 M17 => bd (f_X10_init q16 M17) (fun r18 M19 => pR0 M19 a0 9 3 q16 (fun M20 => pI0 M20 a0 9 4 0 (fun M21 => nwO M21 11 18 (fun q22 M23 => pR0 M23 a0 9 5 q22 (fun M24 => pI0 M24 a0 9 6 0 (fun M25 => nwO M25 11 4 (fun q26 M27 => wI0 M27 q26 4 0 (-1) (fun M28 => wI0 M28 q26 4 1 (-1) (fun M29 => wI0 M29 q26 4 2 (-1) (fun M30 => wI0 M30 q26 4 3 (-1) (fun M31 => pR0 M31 a0 9 7 q26 (fun M32 => nwO M32 11 4 (fun q33 M34 => pR0 M34 a0 9 8 q33 (fun M35 => nwL M35 (fun q36 M37 => pR0 M37 a0 9 9 q36 (fun M38 => nwO M38 11 4 (fun q39 M40 => pR0 M40 a0 9 10 q39 (fun M41 => nwO M41 11 4 (fun q42 M43 => pR0 M43 a0 9 11 q42 (fun M44 => nwO M44 11 4 (fun q45 M46 => pR0 M46 a0 9 12 q45 (fun M47 => nwO M47 7 0 (fun q48 M49 => bd (f_X9_init q48 M49) (fun r50 M51 => pR0 M51 a0 9 13 q48 (fun M52 => some ((), M52))))))))))))))))))))))))))))))))))))
theorem m_X11_init_0 {Z : k_Z} {G : k_G} {a0 : Nat} (C : k_C Z G RX11 cX11_init (false, 1, 3, 75, 1071) none "<init>") (hLF : k_LF Z) (M : k_M) : Sm Z G emV (false, 1, 3, 75, 1071) (0, 0) 0 [(0, k_ra Z a0)] [] M (f_X11_init a0 M) := by
  show Sm Z G emV _ _ _ _ _ _ (nwO M 5 0 (fun q1 M2 => bd (f_X7_init q1 M2) (fun r3 M4 => pR0 M4 a0 9 0 q1 (fun M5 => nwO M5 8 0 (fun q6 M7 => bd (f_X10_init q6 M7) (fun r8 M9 => pR0 M9 a0 9 1 q6 (fun M10 => nwO M10 8 0 (fun q11 M12 => bd (f_X10_init q11 M12) (fun r13 M14 => pR0 M14 a0 9 2 q11 (fun M15 => nwO M15 8 0 (fun q16 M17 => bd (f_X10_init q16 M17) (fun r18 M19 => pR0 M19 a0 9 3 q16 (fun M20 => pI0 M20 a0 9 4 0 (fun M21 => nwO M21 11 18 (fun q22 M23 => pR0 M23 a0 9 5 q22 (fun M24 => pI0 M24 a0 9 6 0 (fun M25 => nwO M25 11 4 (fun q26 M27 => wI0 M27 q26 4 0 (-1) (fun M28 => wI0 M28 q26 4 1 (-1) (fun M29 => wI0 M29 q26 4 2 (-1) (fun M30 => wI0 M30 q26 4 3 (-1) (fun M31 => pR0 M31 a0 9 7 q26 (fun M32 => nwO M32 11 4 (fun q33 M34 => pR0 M34 a0 9 8 q33 (fun M35 => nwL M35 (fun q36 M37 => pR0 M37 a0 9 9 q36 (fun M38 => nwO M38 11 4 (fun q39 M40 => pR0 M40 a0 9 10 q39 (fun M41 => nwO M41 11 4 (fun q42 M43 => pR0 M43 a0 9 11 q42 (fun M44 => nwO M44 11 4 (fun q45 M46 => pR0 M46 a0 9 12 q45 (fun M47 => nwO M47 7 0 (fun q48 M49 => bd (f_X9_init q48 M49) (fun r50 M51 => pR0 M51 a0 9 13 q48 (fun M52 => some ((), M52)))))))))))))))))))))))))))))))))))))
  refine x_aload_n C (k_dg dt_X11_init_0 0 0 (.aload_n 0) 1 rfl) 0 rfl ?_
  refine x_objI C oi_RX11_1 (by decide) (Nat.le_of_ble_eq_true rfl) (k_dg dt_X11_init_0 1 1 (.invokespecial 1) 3 rfl) ?_
  refine x_aload_n C (k_dg dt_X11_init_0 2 4 (.aload_n 0) 1 rfl) 0 rfl ?_
  refine x_new0 C (kd := 5) (N := 6) (r := (RX7, TX7, 6)) (ty := tyX7) rfl (by decide) rfl rfl tyX7_ok df_5 iu_5 nw_RX11_7.1 nw_RX11_7.2.1 nw_RX11_7.2.2 (by decide) (by decide) (k_dg dt_X11_init_0 3 5 (.new 7) 3 rfl) (fun q1 M2 => ?_)
  refine x_dup C (k_dg dt_X11_init_0 4 8 (.dup) 1 rfl) rfl ?_
  refine x_callI C (b := k_h Z + q1) (vs := []) (rest := [k_ra Z q1, k_ra Z a0]) (c_X7_init C.2.2.2.2.2.2.2.2.2 G.2.1 q1 M2) cy_X7_init lk_RX11_9 im_X7_init rfl (by decide) (by decide) (by decide) (by decide) rfl rfl (Nat.le_of_ble_eq_true rfl) (k_dg dt_X11_init_0 5 9 (.invokespecial 9) 3 rfl) (fun r3 M4 => ?_)
  show Sm Z G _ _ _ _ [(0, k_ra Z a0)] [k_ra Z q1, k_ra Z a0] _ _
  refine x_putR0 C (kd := 9) (j := 0) rfl rfl (by decide) fl_RX11_10 rfl tb_9 pq_RX11_10.1 pq_RX11_10.2 (fun _ => rfl) (fun _ => rfl) (k_dg dt_X11_init_0 6 12 (.putfield 10) 3 rfl) (fun M5 => ?_)
  refine x_aload_n C (k_dg dt_X11_init_0 7 15 (.aload_n 0) 1 rfl) 0 rfl ?_
  refine x_new0 C (kd := 8) (N := 10) (r := (RX10, TX10, 10)) (ty := tyX10) rfl (by decide) rfl rfl tyX10_ok df_8 iu_8 nw_RX11_16.1 nw_RX11_16.2.1 nw_RX11_16.2.2 (by decide) (by decide) (k_dg dt_X11_init_0 8 16 (.new 16) 3 rfl) (fun q6 M7 => ?_)
  refine x_dup C (k_dg dt_X11_init_0 9 19 (.dup) 1 rfl) rfl ?_
  refine x_callI C (b := k_h Z + q6) (vs := []) (rest := [k_ra Z q6, k_ra Z a0]) (c_X10_init C.2.2.2.2.2.2.2.2.2 G.2.1 hLF q6 M7) cy_X10_init lk_RX11_18 im_X10_init rfl (by decide) (by decide) (by decide) (by decide) rfl rfl (Nat.le_of_ble_eq_true rfl) (k_dg dt_X11_init_0 10 20 (.invokespecial 18) 3 rfl) (fun r8 M9 => ?_)
  show Sm Z G _ _ _ _ [(0, k_ra Z a0)] [k_ra Z q6, k_ra Z a0] _ _
  refine x_putR0 C (kd := 9) (j := 1) rfl rfl (by decide) fl_RX11_19 rfl tb_9 pq_RX11_19.1 pq_RX11_19.2 (fun _ => rfl) (fun _ => rfl) (k_dg dt_X11_init_0 11 23 (.putfield 19) 3 rfl) (fun M10 => ?_)
  refine x_aload_n C (k_dg dt_X11_init_0 12 26 (.aload_n 0) 1 rfl) 0 rfl ?_
  refine x_new0 C (kd := 8) (N := 10) (r := (RX10, TX10, 10)) (ty := tyX10) rfl (by decide) rfl rfl tyX10_ok df_8 iu_8 nw_RX11_16.1 nw_RX11_16.2.1 nw_RX11_16.2.2 (by decide) (by decide) (k_dg dt_X11_init_0 13 27 (.new 16) 3 rfl) (fun q11 M12 => ?_)
  refine x_dup C (k_dg dt_X11_init_0 14 30 (.dup) 1 rfl) rfl ?_
  refine x_callI C (b := k_h Z + q11) (vs := []) (rest := [k_ra Z q11, k_ra Z a0]) (c_X10_init C.2.2.2.2.2.2.2.2.2 G.2.1 hLF q11 M12) cy_X10_init lk_RX11_18 im_X10_init rfl (by decide) (by decide) (by decide) (by decide) rfl rfl (Nat.le_of_ble_eq_true rfl) (k_dg dt_X11_init_0 15 31 (.invokespecial 18) 3 rfl) (fun r13 M14 => ?_)
  show Sm Z G _ _ _ _ [(0, k_ra Z a0)] [k_ra Z q11, k_ra Z a0] _ _
  refine x_putR0 C (kd := 9) (j := 2) rfl rfl (by decide) fl_RX11_23 rfl tb_9 pq_RX11_23.1 pq_RX11_23.2 (fun _ => rfl) (fun _ => rfl) (k_dg dt_X11_init_0 16 34 (.putfield 23) 3 rfl) (fun M15 => ?_)
  refine x_aload_n C (k_dg dt_X11_init_0 17 37 (.aload_n 0) 1 rfl) 0 rfl ?_
  refine x_new0 C (kd := 8) (N := 10) (r := (RX10, TX10, 10)) (ty := tyX10) rfl (by decide) rfl rfl tyX10_ok df_8 iu_8 nw_RX11_16.1 nw_RX11_16.2.1 nw_RX11_16.2.2 (by decide) (by decide) (k_dg dt_X11_init_0 18 38 (.new 16) 3 rfl) (fun q16 M17 => ?_)
  refine x_dup C (k_dg dt_X11_init_0 19 41 (.dup) 1 rfl) rfl ?_
  refine x_callI C (b := k_h Z + q16) (vs := []) (rest := [k_ra Z q16, k_ra Z a0]) (c_X10_init C.2.2.2.2.2.2.2.2.2 G.2.1 hLF q16 M17) cy_X10_init lk_RX11_18 im_X10_init rfl (by decide) (by decide) (by decide) (by decide) rfl rfl (Nat.le_of_ble_eq_true rfl) (k_dg dt_X11_init_0 20 42 (.invokespecial 18) 3 rfl) (fun r18 M19 => ?_)
  show Sm Z G _ _ _ _ [(0, k_ra Z a0)] [k_ra Z q16, k_ra Z a0] _ _
  refine x_putR0 C (kd := 9) (j := 3) rfl rfl (by decide) fl_RX11_26 rfl tb_9 pq_RX11_26.1 pq_RX11_26.2 (fun _ => rfl) (fun _ => rfl) (k_dg dt_X11_init_0 21 45 (.putfield 26) 3 rfl) (fun M20 => ?_)
  refine x_aload_n C (k_dg dt_X11_init_0 22 48 (.aload_n 0) 1 rfl) 0 rfl ?_
  refine x_iconst C (v := 0) (k_dg dt_X11_init_0 23 49 (.iconst 0) 1 rfl) (by decide) ?_
  refine x_putI0 C (kd := 9) (j := 4) rfl (by decide) fl_RX11_29 rfl pt_9_4 tb_9 rfl rfl (k_dg dt_X11_init_0 24 50 (.putfield 29) 3 rfl) (fun M21 => ?_)
  refine x_aload_n C (k_dg dt_X11_init_0 25 53 (.aload_n 0) 1 rfl) 0 rfl ?_
  refine x_bipush C (v := 18) (k_dg dt_X11_init_0 26 54 (.bipush 18) 2 rfl) (by decide) ?_
  refine x_newI0 C (N := 18) rfl (by decide) (by decide) (by decide) (by decide) (by decide) (k_dg dt_X11_init_0 27 56 (.newarray .int) 2 rfl) (fun q22 M23 => ?_)
  refine x_putR0 C (kd := 9) (j := 5) rfl rfl (by decide) fl_RX11_33 rfl tb_9 pq_RX11_33.1 pq_RX11_33.2 (fun _ => rfl) (fun _ => rfl) (k_dg dt_X11_init_0 28 58 (.putfield 33) 3 rfl) (fun M24 => ?_)
  refine x_aload_n C (k_dg dt_X11_init_0 29 61 (.aload_n 0) 1 rfl) 0 rfl ?_
  refine x_iconst C (v := 0) (k_dg dt_X11_init_0 30 62 (.iconst 0) 1 rfl) (by decide) ?_
  refine x_putI0 C (kd := 9) (j := 6) rfl (by decide) fl_RX11_37 rfl pt_9_6 tb_9 rfl rfl (k_dg dt_X11_init_0 31 63 (.putfield 37) 3 rfl) (fun M25 => ?_)
  refine x_aload_n C (k_dg dt_X11_init_0 32 66 (.aload_n 0) 1 rfl) 0 rfl ?_
  refine x_iconst C (v := 4) (k_dg dt_X11_init_0 33 67 (.iconst 4) 1 rfl) (by decide) ?_
  refine x_newI0 C (N := 4) rfl (by decide) (by decide) (by decide) (by decide) (by decide) (k_dg dt_X11_init_0 34 68 (.newarray .int) 2 rfl) (fun q26 M27 => ?_)
  refine x_dup C (k_dg dt_X11_init_0 35 70 (.dup) 1 rfl) rfl ?_
  refine x_iconst C (v := 0) (k_dg dt_X11_init_0 36 71 (.iconst 0) 1 rfl) (by decide) ?_
  refine x_iconst C (v := -1) (k_dg dt_X11_init_0 37 72 (.iconst (-1)) 1 rfl) (by decide) ?_
  refine x_iast0 C (n := 4) rfl (k_dg dt_X11_init_0 38 73 (.iastore) 1 rfl) (fun M28 => ?_)
  refine x_dup C (k_dg dt_X11_init_0 39 74 (.dup) 1 rfl) rfl ?_
  refine x_iconst C (v := 1) (k_dg dt_X11_init_1 0 75 (.iconst 1) 1 rfl) (by decide) ?_
  refine x_iconst C (v := -1) (k_dg dt_X11_init_1 1 76 (.iconst (-1)) 1 rfl) (by decide) ?_
  refine x_iast0 C (n := 4) rfl (k_dg dt_X11_init_1 2 77 (.iastore) 1 rfl) (fun M29 => ?_)
  refine x_dup C (k_dg dt_X11_init_1 3 78 (.dup) 1 rfl) rfl ?_
  refine x_iconst C (v := 2) (k_dg dt_X11_init_1 4 79 (.iconst 2) 1 rfl) (by decide) ?_
  refine x_iconst C (v := -1) (k_dg dt_X11_init_1 5 80 (.iconst (-1)) 1 rfl) (by decide) ?_
  refine x_iast0 C (n := 4) rfl (k_dg dt_X11_init_1 6 81 (.iastore) 1 rfl) (fun M30 => ?_)
  refine x_dup C (k_dg dt_X11_init_1 7 82 (.dup) 1 rfl) rfl ?_
  refine x_iconst C (v := 3) (k_dg dt_X11_init_1 8 83 (.iconst 3) 1 rfl) (by decide) ?_
  refine x_iconst C (v := -1) (k_dg dt_X11_init_1 9 84 (.iconst (-1)) 1 rfl) (by decide) ?_
  refine x_iast0 C (n := 4) rfl (k_dg dt_X11_init_1 10 85 (.iastore) 1 rfl) (fun M31 => ?_)
  refine x_putR0 C (kd := 9) (j := 7) rfl rfl (by decide) fl_RX11_41 rfl tb_9 pq_RX11_41.1 pq_RX11_41.2 (fun _ => rfl) (fun _ => rfl) (k_dg dt_X11_init_1 11 86 (.putfield 41) 3 rfl) (fun M32 => ?_)
  refine x_aload_n C (k_dg dt_X11_init_1 12 89 (.aload_n 0) 1 rfl) 0 rfl ?_
  refine x_iconst C (v := 4) (k_dg dt_X11_init_1 13 90 (.iconst 4) 1 rfl) (by decide) ?_
  refine x_newI0 C (N := 4) rfl (by decide) (by decide) (by decide) (by decide) (by decide) (k_dg dt_X11_init_1 14 91 (.newarray .int) 2 rfl) (fun q33 M34 => ?_)
  refine x_putR0 C (kd := 9) (j := 8) rfl rfl (by decide) fl_RX11_44 rfl tb_9 pq_RX11_44.1 pq_RX11_44.2 (fun _ => rfl) (fun _ => rfl) (k_dg dt_X11_init_1 15 93 (.putfield 44) 3 rfl) (fun M35 => ?_)
  refine x_aload_n C (k_dg dt_X11_init_1 16 96 (.aload_n 0) 1 rfl) 0 rfl ?_
  refine x_iconst C (v := 4) (k_dg dt_X11_init_1 17 97 (.iconst 4) 1 rfl) (by decide) ?_
  refine x_bipush C (v := 40) (k_dg dt_X11_init_1 18 98 (.bipush 40) 2 rfl) (by decide) ?_
  refine x_multi0 C rfl (by decide +kernel) (by decide) (by decide) (k_dg dt_X11_init_1 19 100 (.multianewarray 47 2) 4 rfl) (fun q36 M37 => ?_)
  refine x_putR0 C (kd := 9) (j := 9) rfl rfl (by decide) fl_RX11_49 rfl tb_9 pq_RX11_49.1 pq_RX11_49.2 (fun _ => rfl) (fun _ => rfl) (k_dg dt_X11_init_1 20 104 (.putfield 49) 3 rfl) (fun M38 => ?_)
  refine x_aload_n C (k_dg dt_X11_init_1 21 107 (.aload_n 0) 1 rfl) 0 rfl ?_
  refine x_iconst C (v := 4) (k_dg dt_X11_init_1 22 108 (.iconst 4) 1 rfl) (by decide) ?_
  refine x_newI0 C (N := 4) rfl (by decide) (by decide) (by decide) (by decide) (by decide) (k_dg dt_X11_init_1 23 109 (.newarray .int) 2 rfl) (fun q39 M40 => ?_)
  refine x_putR0 C (kd := 9) (j := 10) rfl rfl (by decide) fl_RX11_52 rfl tb_9 pq_RX11_52.1 pq_RX11_52.2 (fun _ => rfl) (fun _ => rfl) (k_dg dt_X11_init_1 24 111 (.putfield 52) 3 rfl) (fun M41 => ?_)
  refine x_aload_n C (k_dg dt_X11_init_1 25 114 (.aload_n 0) 1 rfl) 0 rfl ?_
  refine x_iconst C (v := 4) (k_dg dt_X11_init_1 26 115 (.iconst 4) 1 rfl) (by decide) ?_
  refine x_newI0 C (N := 4) rfl (by decide) (by decide) (by decide) (by decide) (by decide) (k_dg dt_X11_init_1 27 116 (.newarray .int) 2 rfl) (fun q42 M43 => ?_)
  refine x_putR0 C (kd := 9) (j := 11) rfl rfl (by decide) fl_RX11_55 rfl tb_9 pq_RX11_55.1 pq_RX11_55.2 (fun _ => rfl) (fun _ => rfl) (k_dg dt_X11_init_1 28 118 (.putfield 55) 3 rfl) (fun M44 => ?_)
  refine x_aload_n C (k_dg dt_X11_init_1 29 121 (.aload_n 0) 1 rfl) 0 rfl ?_
  refine x_iconst C (v := 4) (k_dg dt_X11_init_1 30 122 (.iconst 4) 1 rfl) (by decide) ?_
  refine x_newI0 C (N := 4) rfl (by decide) (by decide) (by decide) (by decide) (by decide) (k_dg dt_X11_init_1 31 123 (.newarray .int) 2 rfl) (fun q45 M46 => ?_)
  refine x_putR0 C (kd := 9) (j := 12) rfl rfl (by decide) fl_RX11_58 rfl tb_9 pq_RX11_58.1 pq_RX11_58.2 (fun _ => rfl) (fun _ => rfl) (k_dg dt_X11_init_1 32 125 (.putfield 58) 3 rfl) (fun M47 => ?_)
  refine x_aload_n C (k_dg dt_X11_init_1 33 128 (.aload_n 0) 1 rfl) 0 rfl ?_
  refine x_new0 C (kd := 7) (N := 3) (r := (RX9, TX9, 3)) (ty := tyX9) rfl (by decide) rfl rfl tyX9_ok df_7 iu_7 nw_RX11_61.1 nw_RX11_61.2.1 nw_RX11_61.2.2 (by decide) (by decide) (k_dg dt_X11_init_1 34 129 (.new 61) 3 rfl) (fun q48 M49 => ?_)
  refine x_dup C (k_dg dt_X11_init_1 35 132 (.dup) 1 rfl) rfl ?_
  refine x_callI C (b := k_h Z + q48) (vs := []) (rest := [k_ra Z q48, k_ra Z a0]) (c_X9_init C.2.2.2.2.2.2.2.2.2 G.2.1 q48 M49) cy_X9_init lk_RX11_63 im_X9_init rfl (by decide) (by decide) (by decide) (by decide) rfl rfl (Nat.le_of_ble_eq_true rfl) (k_dg dt_X11_init_1 36 133 (.invokespecial 63) 3 rfl) (fun r50 M51 => ?_)
  show Sm Z G _ _ _ _ [(0, k_ra Z a0)] [k_ra Z q48, k_ra Z a0] _ _
  refine x_putR0 C (kd := 9) (j := 13) rfl rfl (by decide) fl_RX11_64 rfl tb_9 pq_RX11_64.1 pq_RX11_64.2 (fun _ => rfl) (fun _ => rfl) (k_dg dt_X11_init_1 37 136 (.putfield 64) 3 rfl) (fun M52 => ?_)
  exact x_vret C (by decide) (by decide) (k_dg dt_X11_init_1 38 139 (.return_) 1 rfl)
theorem c_X11_init {Z : k_Z} (hg : k_Gd Z) (l : Launch) (hLF : k_LF Z) (a0 : Nat) (M : k_M) : Con false Z l yX11_init cX11_init 1 none 3 75 1071 emV [k_ra Z a0] M (f_X11_init a0 M) := k_con hg (by decide) (Nat.le_of_ble_eq_true rfl) (fun G hl C => m_X11_init_0 C hLF M)
theorem dt_X12_init_0 : k_dec cX12_init [(0, .aload_n 0, 1), (1, .invokespecial 1, 3), (4, .aload_n 0, 1), (5, .bipush 24, 2), (7, .newarray .int, 2), (9, .putfield 7, 3), (12, .aload_n 0, 1), (13, .bipush 60, 2), (15, .newarray .int, 2), (17, .putfield 13, 3), (20, .aload_n 0, 1), (21, .bipush 13, 2), (23, .newarray .int, 2), (25, .dup, 1), (26, .iconst 0, 1), (27, .iconst 1, 1), (28, .iastore, 1), (29, .dup, 1), (30, .iconst 1, 1), (31, .iconst 1, 1), (32, .iastore, 1), (33, .dup, 1), (34, .iconst 2, 1), (35, .iconst 1, 1), (36, .iastore, 1), (37, .dup, 1), (38, .iconst 3, 1), (39, .iconst 1, 1), (40, .iastore, 1), (41, .dup, 1), (42, .iconst 4, 1), (43, .iconst 1, 1), (44, .iastore, 1), (45, .dup, 1), (46, .iconst 5, 1), (47, .iconst 1, 1), (48, .iastore, 1), (49, .dup, 1), (50, .bipush 6, 2), (52, .bipush 10, 2)] = true := by decide +kernel
theorem dt_X12_init_1 : k_dec cX12_init [(54, .iastore, 1), (55, .dup, 1), (56, .bipush 7, 2), (58, .iconst 0, 1), (59, .iastore, 1), (60, .dup, 1), (61, .bipush 8, 2), (63, .iconst 1, 1), (64, .iastore, 1), (65, .dup, 1), (66, .bipush 9, 2), (68, .iconst 1, 1), (69, .iastore, 1), (70, .dup, 1), (71, .bipush 10, 2), (73, .iconst 1, 1), (74, .iastore, 1), (75, .dup, 1), (76, .bipush 11, 2), (78, .iconst 5, 1), (79, .iastore, 1), (80, .dup, 1), (81, .bipush 12, 2), (83, .iconst 2, 1), (84, .iastore, 1), (85, .putfield 16, 3), (88, .aload_n 0, 1), (89, .bipush 13, 2), (91, .newarray .int, 2), (93, .dup, 1), (94, .iconst 0, 1), (95, .iconst 5, 1), (96, .iastore, 1), (97, .dup, 1), (98, .iconst 1, 1), (99, .iconst 5, 1), (100, .iastore, 1), (101, .dup, 1), (102, .iconst 2, 1), (103, .iconst 5, 1)] = true := by decide +kernel
theorem dt_X12_init_2 : k_dec cX12_init [(104, .iastore, 1), (105, .dup, 1), (106, .iconst 3, 1), (107, .iconst 5, 1), (108, .iastore, 1), (109, .dup, 1), (110, .iconst 4, 1), (111, .iconst 5, 1), (112, .iastore, 1), (113, .dup, 1), (114, .iconst 5, 1), (115, .iconst 5, 1), (116, .iastore, 1), (117, .dup, 1), (118, .bipush 6, 2), (120, .bipush 20, 2), (122, .iastore, 1), (123, .dup, 1), (124, .bipush 7, 2), (126, .iconst 5, 1), (127, .iastore, 1), (128, .dup, 1), (129, .bipush 8, 2), (131, .bipush 9, 2), (133, .iastore, 1), (134, .dup, 1), (135, .bipush 9, 2), (137, .bipush 9, 2), (139, .iastore, 1), (140, .dup, 1), (141, .bipush 10, 2), (143, .bipush 9, 2), (145, .iastore, 1), (146, .dup, 1), (147, .bipush 11, 2), (149, .bipush 9, 2), (151, .iastore, 1), (152, .dup, 1), (153, .bipush 12, 2), (155, .iconst 4, 1)] = true := by decide +kernel
theorem dt_X12_init_3 : k_dec cX12_init [(156, .iastore, 1), (157, .putfield 19, 3), (160, .aload_n 0, 1), (161, .bipush 12, 2), (163, .newarray .int, 2), (165, .putfield 22, 3), (168, .aload_n 0, 1), (169, .sipush 1100, 3), (172, .newarray .int, 2), (174, .putfield 25, 3), (177, .aload_n 0, 1), (178, .sipush 200, 3), (181, .newarray .int, 2), (183, .putfield 28, 3), (186, .aload_n 0, 1), (187, .bipush 24, 2), (189, .newarray .int, 2), (191, .putfield 31, 3), (194, .aload_n 0, 1), (195, .bipush 60, 2), (197, .newarray .int, 2), (199, .putfield 34, 3), (202, .aload_n 0, 1), (203, .bipush 8, 2), (205, .newarray .int, 2), (207, .putfield 37, 3), (210, .aload_n 0, 1), (211, .bipush 8, 2), (213, .newarray .int, 2), (215, .putfield 40, 3), (218, .aload_n 0, 1), (219, .bipush 8, 2), (221, .newarray .int, 2), (223, .putfield 43, 3), (226, .aload_n 0, 1), (227, .bipush 6, 2), (229, .newarray .int, 2), (231, .putfield 46, 3), (234, .aload_n 0, 1), (235, .bipush 6, 2)] = true := by decide +kernel
theorem dt_X12_init_4 : k_dec cX12_init [(237, .newarray .int, 2), (239, .putfield 49, 3), (242, .aload_n 0, 1), (243, .bipush 6, 2), (245, .newarray .int, 2), (247, .putfield 52, 3), (250, .aload_n 0, 1), (251, .bipush 6, 2), (253, .newarray .int, 2), (255, .putfield 55, 3), (258, .aload_n 0, 1), (259, .bipush 6, 2), (261, .newarray .int, 2), (263, .putfield 58, 3), (266, .aload_n 0, 1), (267, .bipush 64, 2), (269, .newarray .int, 2), (271, .putfield 61, 3), (274, .aload_n 0, 1), (275, .bipush 18, 2), (277, .newarray .int, 2), (279, .putfield 64, 3), (282, .aload_n 0, 1), (283, .iconst 4, 1), (284, .newarray .int, 2), (286, .dup, 1), (287, .iconst 0, 1), (288, .iconst (-1), 1), (289, .iastore, 1), (290, .dup, 1), (291, .iconst 1, 1), (292, .iconst (-1), 1), (293, .iastore, 1), (294, .dup, 1), (295, .iconst 2, 1), (296, .iconst (-1), 1), (297, .iastore, 1), (298, .dup, 1), (299, .iconst 3, 1), (300, .iconst (-1), 1)] = true := by decide +kernel
theorem dt_X12_init_5 : k_dec cX12_init [(301, .iastore, 1), (302, .putfield 67, 3), (305, .aload_n 0, 1), (306, .iconst 4, 1), (307, .newarray .int, 2), (309, .putfield 70, 3), (312, .aload_n 0, 1), (313, .sipush 160, 3), (316, .newarray .long, 2), (318, .putfield 73, 3), (321, .aload_n 0, 1), (322, .iconst 4, 1), (323, .newarray .int, 2), (325, .dup, 1), (326, .iconst 0, 1), (327, .iconst (-1), 1), (328, .iastore, 1), (329, .dup, 1), (330, .iconst 1, 1), (331, .iconst (-1), 1), (332, .iastore, 1), (333, .dup, 1), (334, .iconst 2, 1), (335, .iconst (-1), 1), (336, .iastore, 1), (337, .dup, 1), (338, .iconst 3, 1), (339, .iconst (-1), 1), (340, .iastore, 1), (341, .putfield 77, 3), (344, .aload_n 0, 1), (345, .iconst 4, 1), (346, .newarray .int, 2), (348, .putfield 80, 3), (351, .aload_n 0, 1), (352, .iconst 4, 1), (353, .newarray .int, 2), (355, .putfield 83, 3), (358, .aload_n 0, 1), (359, .bipush 30, 2)] = true := by decide +kernel
theorem dt_X12_init_6 : k_dec cX12_init [(361, .newarray .int, 2), (363, .putfield 86, 3), (366, .aload_n 0, 1), (367, .sipush 150, 3), (370, .newarray .int, 2), (372, .putfield 89, 3), (375, .aload_n 0, 1), (376, .iconst 5, 1), (377, .newarray .int, 2), (379, .putfield 92, 3), (382, .return_, 1)] = true := by decide +kernel
def f_X12_init (a0 : Nat) (M : k_M) : Option (Unit × k_M) := nwO M 11 24 (fun q1 M2 => pR0 M2 a0 10 1 q1 (fun M3 => nwO M3 11 60 (fun q4 M5 => pR0 M5 a0 10 3 q4 (fun M6 => nwO M6 11 13 (fun q7 M8 => wI0 M8 q7 13 0 1 (fun M9 => wI0 M9 q7 13 1 1 (fun M10 => wI0 M10 q7 13 2 1 (fun M11 => wI0 M11 q7 13 3 1 (fun M12 => wI0 M12 q7 13 4 1 (fun M13 => wI0 M13 q7 13 5 1 (fun M14 => wI0 M14 q7 13 6 10 (fun M15 => wI0 M15 q7 13 7 0 (fun M16 => wI0 M16 q7 13 8 1 (fun M17 => wI0 M17 q7 13 9 1 (fun M18 => wI0 M18 q7 13 10 1 (fun M19 => wI0 M19 q7 13 11 5 (fun M20 => wI0 M20 q7 13 12 2 (fun M21 => pR0 M21 a0 10 4 q7 (fun M22 => nwO M22 11 13 (fun q23 M24 => wI0 M24 q23 13 0 5 (fun M25 => wI0 M25 q23 13 1 5 (fun M26 => wI0 M26 q23 13 2 5 (fun M27 => wI0 M27 q23 13 3 5 (fun M28 => wI0 M28 q23 13 4 5 (fun M29 => wI0 M29 q23 13 5 5 (fun M30 => wI0 M30 q23 13 6 20 (fun M31 => wI0 M31 q23 13 7 5 (fun M32 => wI0 M32 q23 13 8 9 (fun M33 => wI0 M33 q23 13 9 9 (fun M34 => wI0 M34 q23 13 10 9 (fun M35 => wI0 M35 q23 13 11 9 (fun M36 => wI0 M36 q23 13 12 4 (fun M37 => pR0 M37 a0 10 5 q23 (fun M38 => nwO M38 11 12 (fun q39 M40 => pR0 M40 a0 10 9 q39 (fun M41 => nwO M41 11 1100 (fun q42 M43 => pR0 M43 a0 10 10 q42 (fun M44 => nwO M44 11 200 (fun q45 M46 => pR0 M46 a0 10 11 q45 (fun M47 => nwO M47 11 24 (fun q48 M49 => pR0 M49 a0 10 21 q48 (fun M50 => nwO M50 11 60 (fun q51 M52 => pR0 M52 a0 10 22 q51 (fun M53 => nwO M53 11 8 (fun q54 M55 => pR0 M55 a0 10 23 q54 (fun M56 => nwO M56 11 8 (fun q57 M58 => pR0 M58 a0 10 24 q57 (fun M59 => nwO M59 11 8 (fun q60 M61 => pR0 M61 a0 10 25 q60 (fun M62 => nwO M62 11 6 (fun q63 M64 => pR0 M64 a0 10 27 q63 (fun M65 => nwO M65 11 6 (fun q66 M67 => pR0 M67 a0 10 28 q66 (fun M68 => nwO M68 11 6 (fun q69 M70 => pR0 M70 a0 10 29 q69 (fun M71 => nwO M71 11 6 (fun q72 M73 => pR0 M73 a0 10 30 q72 (fun M74 => nwO M74 11 6 (fun q75 M76 => pR0 M76 a0 10 31 q75 (fun M77 => nwO M77 11 64 (fun q78 M79 => pR0 M79 a0 10 34 q78 (fun M80 => nwO M80 11 18 (fun q81 M82 => pR0 M82 a0 10 35 q81 (fun M83 => nwO M83 11 4 (fun q84 M85 => wI0 M85 q84 4 0 (-1) (fun M86 => wI0 M86 q84 4 1 (-1) (fun M87 => wI0 M87 q84 4 2 (-1) (fun M88 => wI0 M88 q84 4 3 (-1) (fun M89 => pR0 M89 a0 10 37 q84 (fun M90 => nwO M90 11 4 (fun q91 M92 => pR0 M92 a0 10 38 q91 (fun M93 => nwO M93 12 160 (fun q94 M95 => pR0 M95 a0 10 39 q94 (fun M96 => nwO M96 11 4 (fun q97 M98 => wI0 M98 q97 4 0 (-1) (fun M99 => wI0 M99 q97 4 1 (-1) (fun M100 => wI0 M100 q97 4 2 (-1) (fun M101 => wI0 M101 q97 4 3 (-1) (fun M102 => pR0 M102 a0 10 40 q97 (fun M103 => nwO M103 11 4 (fun q104 M105 => pR0 M105 a0 10 41 q104 (fun M106 => nwO M106 11 4 (fun q107 M108 => pR0 M108 a0 10 42 q107 (fun M109 => nwO M109 11 30 (fun q110 M111 => pR0 M111 a0 10 46 q110 (fun M112 => nwO M112 11 150 (fun q113 M114 => pR0 M114 a0 10 50 q113 (fun M115 => nwO M115 11 5 (fun q116 M117 => pR0 M117 a0 10 52 q116 (fun M118 => some ((), M118)))))))))))))))))))))))))))))))))))))))))))))))))))))))))))))))))))))))))))))))))))))))))))
theorem m_X12_init_0 {Z : k_Z} {G : k_G} {a0 : Nat} (C : k_C Z G RX12 cX12_init (false, 1, 1, 28, 2007) none "<init>") (M : k_M) : Sm Z G emV (false, 1, 1, 28, 2007) (0, 0) 0 [(0, k_ra Z a0)] [] M (f_X12_init a0 M) := by
  show Sm Z G emV _ _ _ _ _ _ (nwO M 11 24 (fun q1 M2 => pR0 M2 a0 10 1 q1 (fun M3 => nwO M3 11 60 (fun q4 M5 => pR0 M5 a0 10 3 q4 (fun M6 => nwO M6 11 13 (fun q7 M8 => wI0 M8 q7 13 0 1 (fun M9 => wI0 M9 q7 13 1 1 (fun M10 => wI0 M10 q7 13 2 1 (fun M11 => wI0 M11 q7 13 3 1 (fun M12 => wI0 M12 q7 13 4 1 (fun M13 => wI0 M13 q7 13 5 1 (fun M14 => wI0 M14 q7 13 6 10 (fun M15 => wI0 M15 q7 13 7 0 (fun M16 => wI0 M16 q7 13 8 1 (fun M17 => wI0 M17 q7 13 9 1 (fun M18 => wI0 M18 q7 13 10 1 (fun M19 => wI0 M19 q7 13 11 5 (fun M20 => wI0 M20 q7 13 12 2 (fun M21 => pR0 M21 a0 10 4 q7 (fun M22 => nwO M22 11 13 (fun q23 M24 => wI0 M24 q23 13 0 5 (fun M25 => wI0 M25 q23 13 1 5 (fun M26 => wI0 M26 q23 13 2 5 (fun M27 => wI0 M27 q23 13 3 5 (fun M28 => wI0 M28 q23 13 4 5 (fun M29 => wI0 M29 q23 13 5 5 (fun M30 => wI0 M30 q23 13 6 20 (fun M31 => wI0 M31 q23 13 7 5 (fun M32 => wI0 M32 q23 13 8 9 (fun M33 => wI0 M33 q23 13 9 9 (fun M34 => wI0 M34 q23 13 10 9 (fun M35 => wI0 M35 q23 13 11 9 (fun M36 => wI0 M36 q23 13 12 4 (fun M37 => pR0 M37 a0 10 5 q23 (fun M38 => nwO M38 11 12 (fun q39 M40 => pR0 M40 a0 10 9 q39 (fun M41 => nwO M41 11 1100 (fun q42 M43 => pR0 M43 a0 10 10 q42 (fun M44 => nwO M44 11 200 (fun q45 M46 => pR0 M46 a0 10 11 q45 (fun M47 => nwO M47 11 24 (fun q48 M49 => pR0 M49 a0 10 21 q48 (fun M50 => nwO M50 11 60 (fun q51 M52 => pR0 M52 a0 10 22 q51 (fun M53 => nwO M53 11 8 (fun q54 M55 => pR0 M55 a0 10 23 q54 (fun M56 => nwO M56 11 8 (fun q57 M58 => pR0 M58 a0 10 24 q57 (fun M59 => nwO M59 11 8 (fun q60 M61 => pR0 M61 a0 10 25 q60 (fun M62 => nwO M62 11 6 (fun q63 M64 => pR0 M64 a0 10 27 q63 (fun M65 => nwO M65 11 6 (fun q66 M67 => pR0 M67 a0 10 28 q66 (fun M68 => nwO M68 11 6 (fun q69 M70 => pR0 M70 a0 10 29 q69 (fun M71 => nwO M71 11 6 (fun q72 M73 => pR0 M73 a0 10 30 q72 (fun M74 => nwO M74 11 6 (fun q75 M76 => pR0 M76 a0 10 31 q75 (fun M77 => nwO M77 11 64 (fun q78 M79 => pR0 M79 a0 10 34 q78 (fun M80 => nwO M80 11 18 (fun q81 M82 => pR0 M82 a0 10 35 q81 (fun M83 => nwO M83 11 4 (fun q84 M85 => wI0 M85 q84 4 0 (-1) (fun M86 => wI0 M86 q84 4 1 (-1) (fun M87 => wI0 M87 q84 4 2 (-1) (fun M88 => wI0 M88 q84 4 3 (-1) (fun M89 => pR0 M89 a0 10 37 q84 (fun M90 => nwO M90 11 4 (fun q91 M92 => pR0 M92 a0 10 38 q91 (fun M93 => nwO M93 12 160 (fun q94 M95 => pR0 M95 a0 10 39 q94 (fun M96 => nwO M96 11 4 (fun q97 M98 => wI0 M98 q97 4 0 (-1) (fun M99 => wI0 M99 q97 4 1 (-1) (fun M100 => wI0 M100 q97 4 2 (-1) (fun M101 => wI0 M101 q97 4 3 (-1) (fun M102 => pR0 M102 a0 10 40 q97 (fun M103 => nwO M103 11 4 (fun q104 M105 => pR0 M105 a0 10 41 q104 (fun M106 => nwO M106 11 4 (fun q107 M108 => pR0 M108 a0 10 42 q107 (fun M109 => nwO M109 11 30 (fun q110 M111 => pR0 M111 a0 10 46 q110 (fun M112 => nwO M112 11 150 (fun q113 M114 => pR0 M114 a0 10 50 q113 (fun M115 => nwO M115 11 5 (fun q116 M117 => pR0 M117 a0 10 52 q116 (fun M118 => some ((), M118))))))))))))))))))))))))))))))))))))))))))))))))))))))))))))))))))))))))))))))))))))))))))))
  refine x_aload_n C (k_dg dt_X12_init_0 0 0 (.aload_n 0) 1 rfl) 0 rfl ?_
  refine x_objI C oi_RX12_1 (by decide) (Nat.le_of_ble_eq_true rfl) (k_dg dt_X12_init_0 1 1 (.invokespecial 1) 3 rfl) ?_
  refine x_aload_n C (k_dg dt_X12_init_0 2 4 (.aload_n 0) 1 rfl) 0 rfl ?_
  refine x_bipush C (v := 24) (k_dg dt_X12_init_0 3 5 (.bipush 24) 2 rfl) (by decide) ?_
  refine x_newI0 C (N := 24) rfl (by decide) (by decide) (by decide) (by decide) (by decide) (k_dg dt_X12_init_0 4 7 (.newarray .int) 2 rfl) (fun q1 M2 => ?_)
  refine x_putR0 C (kd := 10) (j := 1) rfl rfl (by decide) fl_RX12_7 rfl tb_10 pq_RX12_7.1 pq_RX12_7.2 (fun _ => rfl) (fun _ => rfl) (k_dg dt_X12_init_0 5 9 (.putfield 7) 3 rfl) (fun M3 => ?_)
  refine x_aload_n C (k_dg dt_X12_init_0 6 12 (.aload_n 0) 1 rfl) 0 rfl ?_
  refine x_bipush C (v := 60) (k_dg dt_X12_init_0 7 13 (.bipush 60) 2 rfl) (by decide) ?_
  refine x_newI0 C (N := 60) rfl (by decide) (by decide) (by decide) (by decide) (by decide) (k_dg dt_X12_init_0 8 15 (.newarray .int) 2 rfl) (fun q4 M5 => ?_)
  refine x_putR0 C (kd := 10) (j := 3) rfl rfl (by decide) fl_RX12_13 rfl tb_10 pq_RX12_13.1 pq_RX12_13.2 (fun _ => rfl) (fun _ => rfl) (k_dg dt_X12_init_0 9 17 (.putfield 13) 3 rfl) (fun M6 => ?_)
  refine x_aload_n C (k_dg dt_X12_init_0 10 20 (.aload_n 0) 1 rfl) 0 rfl ?_
  refine x_bipush C (v := 13) (k_dg dt_X12_init_0 11 21 (.bipush 13) 2 rfl) (by decide) ?_
  refine x_newI0 C (N := 13) rfl (by decide) (by decide) (by decide) (by decide) (by decide) (k_dg dt_X12_init_0 12 23 (.newarray .int) 2 rfl) (fun q7 M8 => ?_)
  refine x_dup C (k_dg dt_X12_init_0 13 25 (.dup) 1 rfl) rfl ?_
  refine x_iconst C (v := 0) (k_dg dt_X12_init_0 14 26 (.iconst 0) 1 rfl) (by decide) ?_
  refine x_iconst C (v := 1) (k_dg dt_X12_init_0 15 27 (.iconst 1) 1 rfl) (by decide) ?_
  refine x_iast0 C (n := 13) rfl (k_dg dt_X12_init_0 16 28 (.iastore) 1 rfl) (fun M9 => ?_)
  refine x_dup C (k_dg dt_X12_init_0 17 29 (.dup) 1 rfl) rfl ?_
  refine x_iconst C (v := 1) (k_dg dt_X12_init_0 18 30 (.iconst 1) 1 rfl) (by decide) ?_
  refine x_iconst C (v := 1) (k_dg dt_X12_init_0 19 31 (.iconst 1) 1 rfl) (by decide) ?_
  refine x_iast0 C (n := 13) rfl (k_dg dt_X12_init_0 20 32 (.iastore) 1 rfl) (fun M10 => ?_)
  refine x_dup C (k_dg dt_X12_init_0 21 33 (.dup) 1 rfl) rfl ?_
  refine x_iconst C (v := 2) (k_dg dt_X12_init_0 22 34 (.iconst 2) 1 rfl) (by decide) ?_
  refine x_iconst C (v := 1) (k_dg dt_X12_init_0 23 35 (.iconst 1) 1 rfl) (by decide) ?_
  refine x_iast0 C (n := 13) rfl (k_dg dt_X12_init_0 24 36 (.iastore) 1 rfl) (fun M11 => ?_)
  refine x_dup C (k_dg dt_X12_init_0 25 37 (.dup) 1 rfl) rfl ?_
  refine x_iconst C (v := 3) (k_dg dt_X12_init_0 26 38 (.iconst 3) 1 rfl) (by decide) ?_
  refine x_iconst C (v := 1) (k_dg dt_X12_init_0 27 39 (.iconst 1) 1 rfl) (by decide) ?_
  refine x_iast0 C (n := 13) rfl (k_dg dt_X12_init_0 28 40 (.iastore) 1 rfl) (fun M12 => ?_)
  refine x_dup C (k_dg dt_X12_init_0 29 41 (.dup) 1 rfl) rfl ?_
  refine x_iconst C (v := 4) (k_dg dt_X12_init_0 30 42 (.iconst 4) 1 rfl) (by decide) ?_
  refine x_iconst C (v := 1) (k_dg dt_X12_init_0 31 43 (.iconst 1) 1 rfl) (by decide) ?_
  refine x_iast0 C (n := 13) rfl (k_dg dt_X12_init_0 32 44 (.iastore) 1 rfl) (fun M13 => ?_)
  refine x_dup C (k_dg dt_X12_init_0 33 45 (.dup) 1 rfl) rfl ?_
  refine x_iconst C (v := 5) (k_dg dt_X12_init_0 34 46 (.iconst 5) 1 rfl) (by decide) ?_
  refine x_iconst C (v := 1) (k_dg dt_X12_init_0 35 47 (.iconst 1) 1 rfl) (by decide) ?_
  refine x_iast0 C (n := 13) rfl (k_dg dt_X12_init_0 36 48 (.iastore) 1 rfl) (fun M14 => ?_)
  refine x_dup C (k_dg dt_X12_init_0 37 49 (.dup) 1 rfl) rfl ?_
  refine x_bipush C (v := 6) (k_dg dt_X12_init_0 38 50 (.bipush 6) 2 rfl) (by decide) ?_
  refine x_bipush C (v := 10) (k_dg dt_X12_init_0 39 52 (.bipush 10) 2 rfl) (by decide) ?_
  refine x_iast0 C (n := 13) rfl (k_dg dt_X12_init_1 0 54 (.iastore) 1 rfl) (fun M15 => ?_)
  refine x_dup C (k_dg dt_X12_init_1 1 55 (.dup) 1 rfl) rfl ?_
  refine x_bipush C (v := 7) (k_dg dt_X12_init_1 2 56 (.bipush 7) 2 rfl) (by decide) ?_
  refine x_iconst C (v := 0) (k_dg dt_X12_init_1 3 58 (.iconst 0) 1 rfl) (by decide) ?_
  refine x_iast0 C (n := 13) rfl (k_dg dt_X12_init_1 4 59 (.iastore) 1 rfl) (fun M16 => ?_)
  refine x_dup C (k_dg dt_X12_init_1 5 60 (.dup) 1 rfl) rfl ?_
  refine x_bipush C (v := 8) (k_dg dt_X12_init_1 6 61 (.bipush 8) 2 rfl) (by decide) ?_
  refine x_iconst C (v := 1) (k_dg dt_X12_init_1 7 63 (.iconst 1) 1 rfl) (by decide) ?_
  refine x_iast0 C (n := 13) rfl (k_dg dt_X12_init_1 8 64 (.iastore) 1 rfl) (fun M17 => ?_)
  refine x_dup C (k_dg dt_X12_init_1 9 65 (.dup) 1 rfl) rfl ?_
  refine x_bipush C (v := 9) (k_dg dt_X12_init_1 10 66 (.bipush 9) 2 rfl) (by decide) ?_
  refine x_iconst C (v := 1) (k_dg dt_X12_init_1 11 68 (.iconst 1) 1 rfl) (by decide) ?_
  refine x_iast0 C (n := 13) rfl (k_dg dt_X12_init_1 12 69 (.iastore) 1 rfl) (fun M18 => ?_)
  refine x_dup C (k_dg dt_X12_init_1 13 70 (.dup) 1 rfl) rfl ?_
  refine x_bipush C (v := 10) (k_dg dt_X12_init_1 14 71 (.bipush 10) 2 rfl) (by decide) ?_
  refine x_iconst C (v := 1) (k_dg dt_X12_init_1 15 73 (.iconst 1) 1 rfl) (by decide) ?_
  refine x_iast0 C (n := 13) rfl (k_dg dt_X12_init_1 16 74 (.iastore) 1 rfl) (fun M19 => ?_)
  refine x_dup C (k_dg dt_X12_init_1 17 75 (.dup) 1 rfl) rfl ?_
  refine x_bipush C (v := 11) (k_dg dt_X12_init_1 18 76 (.bipush 11) 2 rfl) (by decide) ?_
  refine x_iconst C (v := 5) (k_dg dt_X12_init_1 19 78 (.iconst 5) 1 rfl) (by decide) ?_
  refine x_iast0 C (n := 13) rfl (k_dg dt_X12_init_1 20 79 (.iastore) 1 rfl) (fun M20 => ?_)
  refine x_dup C (k_dg dt_X12_init_1 21 80 (.dup) 1 rfl) rfl ?_
  refine x_bipush C (v := 12) (k_dg dt_X12_init_1 22 81 (.bipush 12) 2 rfl) (by decide) ?_
  refine x_iconst C (v := 2) (k_dg dt_X12_init_1 23 83 (.iconst 2) 1 rfl) (by decide) ?_
  refine x_iast0 C (n := 13) rfl (k_dg dt_X12_init_1 24 84 (.iastore) 1 rfl) (fun M21 => ?_)
  refine x_putR0 C (kd := 10) (j := 4) rfl rfl (by decide) fl_RX12_16 rfl tb_10 pq_RX12_16.1 pq_RX12_16.2 (fun _ => rfl) (fun _ => rfl) (k_dg dt_X12_init_1 25 85 (.putfield 16) 3 rfl) (fun M22 => ?_)
  refine x_aload_n C (k_dg dt_X12_init_1 26 88 (.aload_n 0) 1 rfl) 0 rfl ?_
  refine x_bipush C (v := 13) (k_dg dt_X12_init_1 27 89 (.bipush 13) 2 rfl) (by decide) ?_
  refine x_newI0 C (N := 13) rfl (by decide) (by decide) (by decide) (by decide) (by decide) (k_dg dt_X12_init_1 28 91 (.newarray .int) 2 rfl) (fun q23 M24 => ?_)
  refine x_dup C (k_dg dt_X12_init_1 29 93 (.dup) 1 rfl) rfl ?_
  refine x_iconst C (v := 0) (k_dg dt_X12_init_1 30 94 (.iconst 0) 1 rfl) (by decide) ?_
  refine x_iconst C (v := 5) (k_dg dt_X12_init_1 31 95 (.iconst 5) 1 rfl) (by decide) ?_
  refine x_iast0 C (n := 13) rfl (k_dg dt_X12_init_1 32 96 (.iastore) 1 rfl) (fun M25 => ?_)
  refine x_dup C (k_dg dt_X12_init_1 33 97 (.dup) 1 rfl) rfl ?_
  refine x_iconst C (v := 1) (k_dg dt_X12_init_1 34 98 (.iconst 1) 1 rfl) (by decide) ?_
  refine x_iconst C (v := 5) (k_dg dt_X12_init_1 35 99 (.iconst 5) 1 rfl) (by decide) ?_
  refine x_iast0 C (n := 13) rfl (k_dg dt_X12_init_1 36 100 (.iastore) 1 rfl) (fun M26 => ?_)
  refine x_dup C (k_dg dt_X12_init_1 37 101 (.dup) 1 rfl) rfl ?_
  refine x_iconst C (v := 2) (k_dg dt_X12_init_1 38 102 (.iconst 2) 1 rfl) (by decide) ?_
  refine x_iconst C (v := 5) (k_dg dt_X12_init_1 39 103 (.iconst 5) 1 rfl) (by decide) ?_
  refine x_iast0 C (n := 13) rfl (k_dg dt_X12_init_2 0 104 (.iastore) 1 rfl) (fun M27 => ?_)
  refine x_dup C (k_dg dt_X12_init_2 1 105 (.dup) 1 rfl) rfl ?_
  refine x_iconst C (v := 3) (k_dg dt_X12_init_2 2 106 (.iconst 3) 1 rfl) (by decide) ?_
  refine x_iconst C (v := 5) (k_dg dt_X12_init_2 3 107 (.iconst 5) 1 rfl) (by decide) ?_
  refine x_iast0 C (n := 13) rfl (k_dg dt_X12_init_2 4 108 (.iastore) 1 rfl) (fun M28 => ?_)
  refine x_dup C (k_dg dt_X12_init_2 5 109 (.dup) 1 rfl) rfl ?_
  refine x_iconst C (v := 4) (k_dg dt_X12_init_2 6 110 (.iconst 4) 1 rfl) (by decide) ?_
  refine x_iconst C (v := 5) (k_dg dt_X12_init_2 7 111 (.iconst 5) 1 rfl) (by decide) ?_
  refine x_iast0 C (n := 13) rfl (k_dg dt_X12_init_2 8 112 (.iastore) 1 rfl) (fun M29 => ?_)
  refine x_dup C (k_dg dt_X12_init_2 9 113 (.dup) 1 rfl) rfl ?_
  refine x_iconst C (v := 5) (k_dg dt_X12_init_2 10 114 (.iconst 5) 1 rfl) (by decide) ?_
  refine x_iconst C (v := 5) (k_dg dt_X12_init_2 11 115 (.iconst 5) 1 rfl) (by decide) ?_
  refine x_iast0 C (n := 13) rfl (k_dg dt_X12_init_2 12 116 (.iastore) 1 rfl) (fun M30 => ?_)
  refine x_dup C (k_dg dt_X12_init_2 13 117 (.dup) 1 rfl) rfl ?_
  refine x_bipush C (v := 6) (k_dg dt_X12_init_2 14 118 (.bipush 6) 2 rfl) (by decide) ?_
  refine x_bipush C (v := 20) (k_dg dt_X12_init_2 15 120 (.bipush 20) 2 rfl) (by decide) ?_
  refine x_iast0 C (n := 13) rfl (k_dg dt_X12_init_2 16 122 (.iastore) 1 rfl) (fun M31 => ?_)
  refine x_dup C (k_dg dt_X12_init_2 17 123 (.dup) 1 rfl) rfl ?_
  refine x_bipush C (v := 7) (k_dg dt_X12_init_2 18 124 (.bipush 7) 2 rfl) (by decide) ?_
  refine x_iconst C (v := 5) (k_dg dt_X12_init_2 19 126 (.iconst 5) 1 rfl) (by decide) ?_
  refine x_iast0 C (n := 13) rfl (k_dg dt_X12_init_2 20 127 (.iastore) 1 rfl) (fun M32 => ?_)
  refine x_dup C (k_dg dt_X12_init_2 21 128 (.dup) 1 rfl) rfl ?_
  refine x_bipush C (v := 8) (k_dg dt_X12_init_2 22 129 (.bipush 8) 2 rfl) (by decide) ?_
  refine x_bipush C (v := 9) (k_dg dt_X12_init_2 23 131 (.bipush 9) 2 rfl) (by decide) ?_
  refine x_iast0 C (n := 13) rfl (k_dg dt_X12_init_2 24 133 (.iastore) 1 rfl) (fun M33 => ?_)
  refine x_dup C (k_dg dt_X12_init_2 25 134 (.dup) 1 rfl) rfl ?_
  refine x_bipush C (v := 9) (k_dg dt_X12_init_2 26 135 (.bipush 9) 2 rfl) (by decide) ?_
  refine x_bipush C (v := 9) (k_dg dt_X12_init_2 27 137 (.bipush 9) 2 rfl) (by decide) ?_
  refine x_iast0 C (n := 13) rfl (k_dg dt_X12_init_2 28 139 (.iastore) 1 rfl) (fun M34 => ?_)
  refine x_dup C (k_dg dt_X12_init_2 29 140 (.dup) 1 rfl) rfl ?_
  refine x_bipush C (v := 10) (k_dg dt_X12_init_2 30 141 (.bipush 10) 2 rfl) (by decide) ?_
  refine x_bipush C (v := 9) (k_dg dt_X12_init_2 31 143 (.bipush 9) 2 rfl) (by decide) ?_
  refine x_iast0 C (n := 13) rfl (k_dg dt_X12_init_2 32 145 (.iastore) 1 rfl) (fun M35 => ?_)
  refine x_dup C (k_dg dt_X12_init_2 33 146 (.dup) 1 rfl) rfl ?_
  refine x_bipush C (v := 11) (k_dg dt_X12_init_2 34 147 (.bipush 11) 2 rfl) (by decide) ?_
  refine x_bipush C (v := 9) (k_dg dt_X12_init_2 35 149 (.bipush 9) 2 rfl) (by decide) ?_
  refine x_iast0 C (n := 13) rfl (k_dg dt_X12_init_2 36 151 (.iastore) 1 rfl) (fun M36 => ?_)
  refine x_dup C (k_dg dt_X12_init_2 37 152 (.dup) 1 rfl) rfl ?_
  refine x_bipush C (v := 12) (k_dg dt_X12_init_2 38 153 (.bipush 12) 2 rfl) (by decide) ?_
  refine x_iconst C (v := 4) (k_dg dt_X12_init_2 39 155 (.iconst 4) 1 rfl) (by decide) ?_
  refine x_iast0 C (n := 13) rfl (k_dg dt_X12_init_3 0 156 (.iastore) 1 rfl) (fun M37 => ?_)
  refine x_putR0 C (kd := 10) (j := 5) rfl rfl (by decide) fl_RX12_19 rfl tb_10 pq_RX12_19.1 pq_RX12_19.2 (fun _ => rfl) (fun _ => rfl) (k_dg dt_X12_init_3 1 157 (.putfield 19) 3 rfl) (fun M38 => ?_)
  refine x_aload_n C (k_dg dt_X12_init_3 2 160 (.aload_n 0) 1 rfl) 0 rfl ?_
  refine x_bipush C (v := 12) (k_dg dt_X12_init_3 3 161 (.bipush 12) 2 rfl) (by decide) ?_
  refine x_newI0 C (N := 12) rfl (by decide) (by decide) (by decide) (by decide) (by decide) (k_dg dt_X12_init_3 4 163 (.newarray .int) 2 rfl) (fun q39 M40 => ?_)
  refine x_putR0 C (kd := 10) (j := 9) rfl rfl (by decide) fl_RX12_22 rfl tb_10 pq_RX12_22.1 pq_RX12_22.2 (fun _ => rfl) (fun _ => rfl) (k_dg dt_X12_init_3 5 165 (.putfield 22) 3 rfl) (fun M41 => ?_)
  refine x_aload_n C (k_dg dt_X12_init_3 6 168 (.aload_n 0) 1 rfl) 0 rfl ?_
  refine x_sipush C (v := 1100) (k_dg dt_X12_init_3 7 169 (.sipush 1100) 3 rfl) (by decide) ?_
  refine x_newI0 C (N := 1100) rfl (by decide) (by decide) (by decide) (by decide) (by decide) (k_dg dt_X12_init_3 8 172 (.newarray .int) 2 rfl) (fun q42 M43 => ?_)
  refine x_putR0 C (kd := 10) (j := 10) rfl rfl (by decide) fl_RX12_25 rfl tb_10 pq_RX12_25.1 pq_RX12_25.2 (fun _ => rfl) (fun _ => rfl) (k_dg dt_X12_init_3 9 174 (.putfield 25) 3 rfl) (fun M44 => ?_)
  refine x_aload_n C (k_dg dt_X12_init_3 10 177 (.aload_n 0) 1 rfl) 0 rfl ?_
  refine x_sipush C (v := 200) (k_dg dt_X12_init_3 11 178 (.sipush 200) 3 rfl) (by decide) ?_
  refine x_newI0 C (N := 200) rfl (by decide) (by decide) (by decide) (by decide) (by decide) (k_dg dt_X12_init_3 12 181 (.newarray .int) 2 rfl) (fun q45 M46 => ?_)
  refine x_putR0 C (kd := 10) (j := 11) rfl rfl (by decide) fl_RX12_28 rfl tb_10 pq_RX12_28.1 pq_RX12_28.2 (fun _ => rfl) (fun _ => rfl) (k_dg dt_X12_init_3 13 183 (.putfield 28) 3 rfl) (fun M47 => ?_)
  refine x_aload_n C (k_dg dt_X12_init_3 14 186 (.aload_n 0) 1 rfl) 0 rfl ?_
  refine x_bipush C (v := 24) (k_dg dt_X12_init_3 15 187 (.bipush 24) 2 rfl) (by decide) ?_
  refine x_newI0 C (N := 24) rfl (by decide) (by decide) (by decide) (by decide) (by decide) (k_dg dt_X12_init_3 16 189 (.newarray .int) 2 rfl) (fun q48 M49 => ?_)
  refine x_putR0 C (kd := 10) (j := 21) rfl rfl (by decide) fl_RX12_31 rfl tb_10 pq_RX12_31.1 pq_RX12_31.2 (fun _ => rfl) (fun _ => rfl) (k_dg dt_X12_init_3 17 191 (.putfield 31) 3 rfl) (fun M50 => ?_)
  refine x_aload_n C (k_dg dt_X12_init_3 18 194 (.aload_n 0) 1 rfl) 0 rfl ?_
  refine x_bipush C (v := 60) (k_dg dt_X12_init_3 19 195 (.bipush 60) 2 rfl) (by decide) ?_
  refine x_newI0 C (N := 60) rfl (by decide) (by decide) (by decide) (by decide) (by decide) (k_dg dt_X12_init_3 20 197 (.newarray .int) 2 rfl) (fun q51 M52 => ?_)
  refine x_putR0 C (kd := 10) (j := 22) rfl rfl (by decide) fl_RX12_34 rfl tb_10 pq_RX12_34.1 pq_RX12_34.2 (fun _ => rfl) (fun _ => rfl) (k_dg dt_X12_init_3 21 199 (.putfield 34) 3 rfl) (fun M53 => ?_)
  refine x_aload_n C (k_dg dt_X12_init_3 22 202 (.aload_n 0) 1 rfl) 0 rfl ?_
  refine x_bipush C (v := 8) (k_dg dt_X12_init_3 23 203 (.bipush 8) 2 rfl) (by decide) ?_
  refine x_newI0 C (N := 8) rfl (by decide) (by decide) (by decide) (by decide) (by decide) (k_dg dt_X12_init_3 24 205 (.newarray .int) 2 rfl) (fun q54 M55 => ?_)
  refine x_putR0 C (kd := 10) (j := 23) rfl rfl (by decide) fl_RX12_37 rfl tb_10 pq_RX12_37.1 pq_RX12_37.2 (fun _ => rfl) (fun _ => rfl) (k_dg dt_X12_init_3 25 207 (.putfield 37) 3 rfl) (fun M56 => ?_)
  refine x_aload_n C (k_dg dt_X12_init_3 26 210 (.aload_n 0) 1 rfl) 0 rfl ?_
  refine x_bipush C (v := 8) (k_dg dt_X12_init_3 27 211 (.bipush 8) 2 rfl) (by decide) ?_
  refine x_newI0 C (N := 8) rfl (by decide) (by decide) (by decide) (by decide) (by decide) (k_dg dt_X12_init_3 28 213 (.newarray .int) 2 rfl) (fun q57 M58 => ?_)
  refine x_putR0 C (kd := 10) (j := 24) rfl rfl (by decide) fl_RX12_40 rfl tb_10 pq_RX12_40.1 pq_RX12_40.2 (fun _ => rfl) (fun _ => rfl) (k_dg dt_X12_init_3 29 215 (.putfield 40) 3 rfl) (fun M59 => ?_)
  refine x_aload_n C (k_dg dt_X12_init_3 30 218 (.aload_n 0) 1 rfl) 0 rfl ?_
  refine x_bipush C (v := 8) (k_dg dt_X12_init_3 31 219 (.bipush 8) 2 rfl) (by decide) ?_
  refine x_newI0 C (N := 8) rfl (by decide) (by decide) (by decide) (by decide) (by decide) (k_dg dt_X12_init_3 32 221 (.newarray .int) 2 rfl) (fun q60 M61 => ?_)
  refine x_putR0 C (kd := 10) (j := 25) rfl rfl (by decide) fl_RX12_43 rfl tb_10 pq_RX12_43.1 pq_RX12_43.2 (fun _ => rfl) (fun _ => rfl) (k_dg dt_X12_init_3 33 223 (.putfield 43) 3 rfl) (fun M62 => ?_)
  refine x_aload_n C (k_dg dt_X12_init_3 34 226 (.aload_n 0) 1 rfl) 0 rfl ?_
  refine x_bipush C (v := 6) (k_dg dt_X12_init_3 35 227 (.bipush 6) 2 rfl) (by decide) ?_
  refine x_newI0 C (N := 6) rfl (by decide) (by decide) (by decide) (by decide) (by decide) (k_dg dt_X12_init_3 36 229 (.newarray .int) 2 rfl) (fun q63 M64 => ?_)
  refine x_putR0 C (kd := 10) (j := 27) rfl rfl (by decide) fl_RX12_46 rfl tb_10 pq_RX12_46.1 pq_RX12_46.2 (fun _ => rfl) (fun _ => rfl) (k_dg dt_X12_init_3 37 231 (.putfield 46) 3 rfl) (fun M65 => ?_)
  refine x_aload_n C (k_dg dt_X12_init_3 38 234 (.aload_n 0) 1 rfl) 0 rfl ?_
  refine x_bipush C (v := 6) (k_dg dt_X12_init_3 39 235 (.bipush 6) 2 rfl) (by decide) ?_
  refine x_newI0 C (N := 6) rfl (by decide) (by decide) (by decide) (by decide) (by decide) (k_dg dt_X12_init_4 0 237 (.newarray .int) 2 rfl) (fun q66 M67 => ?_)
  refine x_putR0 C (kd := 10) (j := 28) rfl rfl (by decide) fl_RX12_49 rfl tb_10 pq_RX12_49.1 pq_RX12_49.2 (fun _ => rfl) (fun _ => rfl) (k_dg dt_X12_init_4 1 239 (.putfield 49) 3 rfl) (fun M68 => ?_)
  refine x_aload_n C (k_dg dt_X12_init_4 2 242 (.aload_n 0) 1 rfl) 0 rfl ?_
  refine x_bipush C (v := 6) (k_dg dt_X12_init_4 3 243 (.bipush 6) 2 rfl) (by decide) ?_
  refine x_newI0 C (N := 6) rfl (by decide) (by decide) (by decide) (by decide) (by decide) (k_dg dt_X12_init_4 4 245 (.newarray .int) 2 rfl) (fun q69 M70 => ?_)
  refine x_putR0 C (kd := 10) (j := 29) rfl rfl (by decide) fl_RX12_52 rfl tb_10 pq_RX12_52.1 pq_RX12_52.2 (fun _ => rfl) (fun _ => rfl) (k_dg dt_X12_init_4 5 247 (.putfield 52) 3 rfl) (fun M71 => ?_)
  refine x_aload_n C (k_dg dt_X12_init_4 6 250 (.aload_n 0) 1 rfl) 0 rfl ?_
  refine x_bipush C (v := 6) (k_dg dt_X12_init_4 7 251 (.bipush 6) 2 rfl) (by decide) ?_
  refine x_newI0 C (N := 6) rfl (by decide) (by decide) (by decide) (by decide) (by decide) (k_dg dt_X12_init_4 8 253 (.newarray .int) 2 rfl) (fun q72 M73 => ?_)
  refine x_putR0 C (kd := 10) (j := 30) rfl rfl (by decide) fl_RX12_55 rfl tb_10 pq_RX12_55.1 pq_RX12_55.2 (fun _ => rfl) (fun _ => rfl) (k_dg dt_X12_init_4 9 255 (.putfield 55) 3 rfl) (fun M74 => ?_)
  refine x_aload_n C (k_dg dt_X12_init_4 10 258 (.aload_n 0) 1 rfl) 0 rfl ?_
  refine x_bipush C (v := 6) (k_dg dt_X12_init_4 11 259 (.bipush 6) 2 rfl) (by decide) ?_
  refine x_newI0 C (N := 6) rfl (by decide) (by decide) (by decide) (by decide) (by decide) (k_dg dt_X12_init_4 12 261 (.newarray .int) 2 rfl) (fun q75 M76 => ?_)
  refine x_putR0 C (kd := 10) (j := 31) rfl rfl (by decide) fl_RX12_58 rfl tb_10 pq_RX12_58.1 pq_RX12_58.2 (fun _ => rfl) (fun _ => rfl) (k_dg dt_X12_init_4 13 263 (.putfield 58) 3 rfl) (fun M77 => ?_)
  refine x_aload_n C (k_dg dt_X12_init_4 14 266 (.aload_n 0) 1 rfl) 0 rfl ?_
  refine x_bipush C (v := 64) (k_dg dt_X12_init_4 15 267 (.bipush 64) 2 rfl) (by decide) ?_
  refine x_newI0 C (N := 64) rfl (by decide) (by decide) (by decide) (by decide) (by decide) (k_dg dt_X12_init_4 16 269 (.newarray .int) 2 rfl) (fun q78 M79 => ?_)
  refine x_putR0 C (kd := 10) (j := 34) rfl rfl (by decide) fl_RX12_61 rfl tb_10 pq_RX12_61.1 pq_RX12_61.2 (fun _ => rfl) (fun _ => rfl) (k_dg dt_X12_init_4 17 271 (.putfield 61) 3 rfl) (fun M80 => ?_)
  refine x_aload_n C (k_dg dt_X12_init_4 18 274 (.aload_n 0) 1 rfl) 0 rfl ?_
  refine x_bipush C (v := 18) (k_dg dt_X12_init_4 19 275 (.bipush 18) 2 rfl) (by decide) ?_
  refine x_newI0 C (N := 18) rfl (by decide) (by decide) (by decide) (by decide) (by decide) (k_dg dt_X12_init_4 20 277 (.newarray .int) 2 rfl) (fun q81 M82 => ?_)
  refine x_putR0 C (kd := 10) (j := 35) rfl rfl (by decide) fl_RX12_64 rfl tb_10 pq_RX12_64.1 pq_RX12_64.2 (fun _ => rfl) (fun _ => rfl) (k_dg dt_X12_init_4 21 279 (.putfield 64) 3 rfl) (fun M83 => ?_)
  refine x_aload_n C (k_dg dt_X12_init_4 22 282 (.aload_n 0) 1 rfl) 0 rfl ?_
  refine x_iconst C (v := 4) (k_dg dt_X12_init_4 23 283 (.iconst 4) 1 rfl) (by decide) ?_
  refine x_newI0 C (N := 4) rfl (by decide) (by decide) (by decide) (by decide) (by decide) (k_dg dt_X12_init_4 24 284 (.newarray .int) 2 rfl) (fun q84 M85 => ?_)
  refine x_dup C (k_dg dt_X12_init_4 25 286 (.dup) 1 rfl) rfl ?_
  refine x_iconst C (v := 0) (k_dg dt_X12_init_4 26 287 (.iconst 0) 1 rfl) (by decide) ?_
  refine x_iconst C (v := -1) (k_dg dt_X12_init_4 27 288 (.iconst (-1)) 1 rfl) (by decide) ?_
  refine x_iast0 C (n := 4) rfl (k_dg dt_X12_init_4 28 289 (.iastore) 1 rfl) (fun M86 => ?_)
  refine x_dup C (k_dg dt_X12_init_4 29 290 (.dup) 1 rfl) rfl ?_
  refine x_iconst C (v := 1) (k_dg dt_X12_init_4 30 291 (.iconst 1) 1 rfl) (by decide) ?_
  refine x_iconst C (v := -1) (k_dg dt_X12_init_4 31 292 (.iconst (-1)) 1 rfl) (by decide) ?_
  refine x_iast0 C (n := 4) rfl (k_dg dt_X12_init_4 32 293 (.iastore) 1 rfl) (fun M87 => ?_)
  refine x_dup C (k_dg dt_X12_init_4 33 294 (.dup) 1 rfl) rfl ?_
  refine x_iconst C (v := 2) (k_dg dt_X12_init_4 34 295 (.iconst 2) 1 rfl) (by decide) ?_
  refine x_iconst C (v := -1) (k_dg dt_X12_init_4 35 296 (.iconst (-1)) 1 rfl) (by decide) ?_
  refine x_iast0 C (n := 4) rfl (k_dg dt_X12_init_4 36 297 (.iastore) 1 rfl) (fun M88 => ?_)
  refine x_dup C (k_dg dt_X12_init_4 37 298 (.dup) 1 rfl) rfl ?_
  refine x_iconst C (v := 3) (k_dg dt_X12_init_4 38 299 (.iconst 3) 1 rfl) (by decide) ?_
  refine x_iconst C (v := -1) (k_dg dt_X12_init_4 39 300 (.iconst (-1)) 1 rfl) (by decide) ?_
  refine x_iast0 C (n := 4) rfl (k_dg dt_X12_init_5 0 301 (.iastore) 1 rfl) (fun M89 => ?_)
  refine x_putR0 C (kd := 10) (j := 37) rfl rfl (by decide) fl_RX12_67 rfl tb_10 pq_RX12_67.1 pq_RX12_67.2 (fun _ => rfl) (fun _ => rfl) (k_dg dt_X12_init_5 1 302 (.putfield 67) 3 rfl) (fun M90 => ?_)
  refine x_aload_n C (k_dg dt_X12_init_5 2 305 (.aload_n 0) 1 rfl) 0 rfl ?_
  refine x_iconst C (v := 4) (k_dg dt_X12_init_5 3 306 (.iconst 4) 1 rfl) (by decide) ?_
  refine x_newI0 C (N := 4) rfl (by decide) (by decide) (by decide) (by decide) (by decide) (k_dg dt_X12_init_5 4 307 (.newarray .int) 2 rfl) (fun q91 M92 => ?_)
  refine x_putR0 C (kd := 10) (j := 38) rfl rfl (by decide) fl_RX12_70 rfl tb_10 pq_RX12_70.1 pq_RX12_70.2 (fun _ => rfl) (fun _ => rfl) (k_dg dt_X12_init_5 5 309 (.putfield 70) 3 rfl) (fun M93 => ?_)
  refine x_aload_n C (k_dg dt_X12_init_5 6 312 (.aload_n 0) 1 rfl) 0 rfl ?_
  refine x_sipush C (v := 160) (k_dg dt_X12_init_5 7 313 (.sipush 160) 3 rfl) (by decide) ?_
  refine x_newJ0 C (N := 160) rfl (by decide) (by decide) (by decide) (by decide) (by decide) (k_dg dt_X12_init_5 8 316 (.newarray .long) 2 rfl) (fun q94 M95 => ?_)
  refine x_putR0 C (kd := 10) (j := 39) rfl rfl (by decide) fl_RX12_73 rfl tb_10 pq_RX12_73.1 pq_RX12_73.2 (fun _ => rfl) (fun _ => rfl) (k_dg dt_X12_init_5 9 318 (.putfield 73) 3 rfl) (fun M96 => ?_)
  refine x_aload_n C (k_dg dt_X12_init_5 10 321 (.aload_n 0) 1 rfl) 0 rfl ?_
  refine x_iconst C (v := 4) (k_dg dt_X12_init_5 11 322 (.iconst 4) 1 rfl) (by decide) ?_
  refine x_newI0 C (N := 4) rfl (by decide) (by decide) (by decide) (by decide) (by decide) (k_dg dt_X12_init_5 12 323 (.newarray .int) 2 rfl) (fun q97 M98 => ?_)
  refine x_dup C (k_dg dt_X12_init_5 13 325 (.dup) 1 rfl) rfl ?_
  refine x_iconst C (v := 0) (k_dg dt_X12_init_5 14 326 (.iconst 0) 1 rfl) (by decide) ?_
  refine x_iconst C (v := -1) (k_dg dt_X12_init_5 15 327 (.iconst (-1)) 1 rfl) (by decide) ?_
  refine x_iast0 C (n := 4) rfl (k_dg dt_X12_init_5 16 328 (.iastore) 1 rfl) (fun M99 => ?_)
  refine x_dup C (k_dg dt_X12_init_5 17 329 (.dup) 1 rfl) rfl ?_
  refine x_iconst C (v := 1) (k_dg dt_X12_init_5 18 330 (.iconst 1) 1 rfl) (by decide) ?_
  refine x_iconst C (v := -1) (k_dg dt_X12_init_5 19 331 (.iconst (-1)) 1 rfl) (by decide) ?_
  refine x_iast0 C (n := 4) rfl (k_dg dt_X12_init_5 20 332 (.iastore) 1 rfl) (fun M100 => ?_)
  refine x_dup C (k_dg dt_X12_init_5 21 333 (.dup) 1 rfl) rfl ?_
  refine x_iconst C (v := 2) (k_dg dt_X12_init_5 22 334 (.iconst 2) 1 rfl) (by decide) ?_
  refine x_iconst C (v := -1) (k_dg dt_X12_init_5 23 335 (.iconst (-1)) 1 rfl) (by decide) ?_
  refine x_iast0 C (n := 4) rfl (k_dg dt_X12_init_5 24 336 (.iastore) 1 rfl) (fun M101 => ?_)
  refine x_dup C (k_dg dt_X12_init_5 25 337 (.dup) 1 rfl) rfl ?_
  refine x_iconst C (v := 3) (k_dg dt_X12_init_5 26 338 (.iconst 3) 1 rfl) (by decide) ?_
  refine x_iconst C (v := -1) (k_dg dt_X12_init_5 27 339 (.iconst (-1)) 1 rfl) (by decide) ?_
  refine x_iast0 C (n := 4) rfl (k_dg dt_X12_init_5 28 340 (.iastore) 1 rfl) (fun M102 => ?_)
  refine x_putR0 C (kd := 10) (j := 40) rfl rfl (by decide) fl_RX12_77 rfl tb_10 pq_RX12_77.1 pq_RX12_77.2 (fun _ => rfl) (fun _ => rfl) (k_dg dt_X12_init_5 29 341 (.putfield 77) 3 rfl) (fun M103 => ?_)
  refine x_aload_n C (k_dg dt_X12_init_5 30 344 (.aload_n 0) 1 rfl) 0 rfl ?_
  refine x_iconst C (v := 4) (k_dg dt_X12_init_5 31 345 (.iconst 4) 1 rfl) (by decide) ?_
  refine x_newI0 C (N := 4) rfl (by decide) (by decide) (by decide) (by decide) (by decide) (k_dg dt_X12_init_5 32 346 (.newarray .int) 2 rfl) (fun q104 M105 => ?_)
  refine x_putR0 C (kd := 10) (j := 41) rfl rfl (by decide) fl_RX12_80 rfl tb_10 pq_RX12_80.1 pq_RX12_80.2 (fun _ => rfl) (fun _ => rfl) (k_dg dt_X12_init_5 33 348 (.putfield 80) 3 rfl) (fun M106 => ?_)
  refine x_aload_n C (k_dg dt_X12_init_5 34 351 (.aload_n 0) 1 rfl) 0 rfl ?_
  refine x_iconst C (v := 4) (k_dg dt_X12_init_5 35 352 (.iconst 4) 1 rfl) (by decide) ?_
  refine x_newI0 C (N := 4) rfl (by decide) (by decide) (by decide) (by decide) (by decide) (k_dg dt_X12_init_5 36 353 (.newarray .int) 2 rfl) (fun q107 M108 => ?_)
  refine x_putR0 C (kd := 10) (j := 42) rfl rfl (by decide) fl_RX12_83 rfl tb_10 pq_RX12_83.1 pq_RX12_83.2 (fun _ => rfl) (fun _ => rfl) (k_dg dt_X12_init_5 37 355 (.putfield 83) 3 rfl) (fun M109 => ?_)
  refine x_aload_n C (k_dg dt_X12_init_5 38 358 (.aload_n 0) 1 rfl) 0 rfl ?_
  refine x_bipush C (v := 30) (k_dg dt_X12_init_5 39 359 (.bipush 30) 2 rfl) (by decide) ?_
  refine x_newI0 C (N := 30) rfl (by decide) (by decide) (by decide) (by decide) (by decide) (k_dg dt_X12_init_6 0 361 (.newarray .int) 2 rfl) (fun q110 M111 => ?_)
  refine x_putR0 C (kd := 10) (j := 46) rfl rfl (by decide) fl_RX12_86 rfl tb_10 pq_RX12_86.1 pq_RX12_86.2 (fun _ => rfl) (fun _ => rfl) (k_dg dt_X12_init_6 1 363 (.putfield 86) 3 rfl) (fun M112 => ?_)
  refine x_aload_n C (k_dg dt_X12_init_6 2 366 (.aload_n 0) 1 rfl) 0 rfl ?_
  refine x_sipush C (v := 150) (k_dg dt_X12_init_6 3 367 (.sipush 150) 3 rfl) (by decide) ?_
  refine x_newI0 C (N := 150) rfl (by decide) (by decide) (by decide) (by decide) (by decide) (k_dg dt_X12_init_6 4 370 (.newarray .int) 2 rfl) (fun q113 M114 => ?_)
  refine x_putR0 C (kd := 10) (j := 50) rfl rfl (by decide) fl_RX12_89 rfl tb_10 pq_RX12_89.1 pq_RX12_89.2 (fun _ => rfl) (fun _ => rfl) (k_dg dt_X12_init_6 5 372 (.putfield 89) 3 rfl) (fun M115 => ?_)
  refine x_aload_n C (k_dg dt_X12_init_6 6 375 (.aload_n 0) 1 rfl) 0 rfl ?_
  refine x_iconst C (v := 5) (k_dg dt_X12_init_6 7 376 (.iconst 5) 1 rfl) (by decide) ?_
  refine x_newI0 C (N := 5) rfl (by decide) (by decide) (by decide) (by decide) (by decide) (k_dg dt_X12_init_6 8 377 (.newarray .int) 2 rfl) (fun q116 M117 => ?_)
  refine x_putR0 C (kd := 10) (j := 52) rfl rfl (by decide) fl_RX12_92 rfl tb_10 pq_RX12_92.1 pq_RX12_92.2 (fun _ => rfl) (fun _ => rfl) (k_dg dt_X12_init_6 9 379 (.putfield 92) 3 rfl) (fun M118 => ?_)
  exact x_vret C (by decide) (by decide) (k_dg dt_X12_init_6 10 382 (.return_) 1 rfl)
theorem c_X12_init {Z : k_Z} (hg : k_Gd Z) (l : Launch) (a0 : Nat) (M : k_M) : Con false Z l yX12_init cX12_init 1 none 1 28 2007 emV [k_ra Z a0] M (f_X12_init a0 M) := k_con hg (by decide) (Nat.le_of_ble_eq_true rfl) (fun G hl C => m_X12_init_0 C M)
