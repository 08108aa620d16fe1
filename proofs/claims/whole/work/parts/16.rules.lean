theorem iu_0 : ∀ w ∈ u_ws RX1 TX1 3, w ∈ lw_tbl ∧ goodWord w = true := k_inU _ [843, 844, 845] (by decide +kernel) (by decide +kernel)
theorem tb_0 : k_tbs 0 := fun r hr => by cases hr; exact ⟨⟨tyX1, tyX1_ok⟩, nmX1⟩
theorem iu_1 : ∀ w ∈ u_ws RX2 TX2 3, w ∈ lw_tbl ∧ goodWord w = true := k_inU _ [810, 812, 814] (by decide +kernel) (by decide +kernel)
theorem tb_1 : k_tbs 1 := fun r hr => by cases hr; exact ⟨⟨tyX2, tyX2_ok⟩, nmX2⟩
theorem iu_3 : ∀ w ∈ u_ws RX4 TX4 3, w ∈ lw_tbl ∧ goodWord w = true := k_inU _ [833, 834, 835] (by decide +kernel) (by decide +kernel)
theorem tb_3 : k_tbs 3 := fun r hr => by cases hr; exact ⟨⟨tyX4, tyX4_ok⟩, nmX4⟩
theorem iu_4 : ∀ w ∈ u_ws RX5 TX5 3, w ∈ lw_tbl ∧ goodWord w = true := k_inU _ [823, 824, 825] (by decide +kernel) (by decide +kernel)
theorem tb_4 : k_tbs 4 := fun r hr => by cases hr; exact ⟨⟨tyX5, tyX5_ok⟩, nmX5⟩
theorem iu_6 : ∀ w ∈ u_ws RX8 TX8 3, w ∈ lw_tbl ∧ goodWord w = true := k_inU _ [853, 854, 855] (by decide +kernel) (by decide +kernel)
theorem tb_6 : k_tbs 6 := fun r hr => by cases hr; exact ⟨⟨tyX8, tyX8_ok⟩, nmX8⟩
theorem fl_RX1_38 : ∀ t : Int32, k_FL RX1 38 (k_tag t) 1 := fun t => k_tag5 (P := fun n => k_FL RX1 38 n 1) t ⟨(RX2, TX2, 3), "WheelCity$Best", rfl, by decide, iu_1, Or.inl (List.mem_of_getElem? (i := 795) (by decide +kernel)), Or.inr (List.mem_of_getElem? (i := 796) (by decide +kernel))⟩ ⟨(RX5, TX5, 3), "WheelCity$Best", rfl, by decide, iu_4, Or.inl (List.mem_of_getElem? (i := 795) (by decide +kernel)), Or.inr (List.mem_of_getElem? (i := 796) (by decide +kernel))⟩ ⟨(RX4, TX4, 3), "WheelCity$Best", rfl, by decide, iu_3, Or.inl (List.mem_of_getElem? (i := 795) (by decide +kernel)), Or.inr (List.mem_of_getElem? (i := 796) (by decide +kernel))⟩ ⟨(RX1, TX1, 3), "WheelCity$Best", rfl, by decide, iu_0, Or.inl (List.mem_of_getElem? (i := 795) (by decide +kernel)), Or.inr (List.mem_of_getElem? (i := 796) (by decide +kernel))⟩ ⟨(RX8, TX8, 3), "WheelCity$Best", rfl, by decide, iu_6, Or.inl (List.mem_of_getElem? (i := 795) (by decide +kernel)), Or.inr (List.mem_of_getElem? (i := 796) (by decide +kernel))⟩
theorem fl_RX1_9 : ∀ t : Int32, k_FL RX1 9 (k_tag t) 2 := fun t => k_tag5 (P := fun n => k_FL RX1 9 n 2) t ⟨(RX2, TX2, 3), "WheelCity$Best", rfl, by decide, iu_1, Or.inl (List.mem_of_getElem? (i := 803) (by decide +kernel)), Or.inr (List.mem_of_getElem? (i := 804) (by decide +kernel))⟩ ⟨(RX5, TX5, 3), "WheelCity$Best", rfl, by decide, iu_4, Or.inl (List.mem_of_getElem? (i := 803) (by decide +kernel)), Or.inr (List.mem_of_getElem? (i := 804) (by decide +kernel))⟩ ⟨(RX4, TX4, 3), "WheelCity$Best", rfl, by decide, iu_3, Or.inl (List.mem_of_getElem? (i := 803) (by decide +kernel)), Or.inr (List.mem_of_getElem? (i := 804) (by decide +kernel))⟩ ⟨(RX1, TX1, 3), "WheelCity$Best", rfl, by decide, iu_0, Or.inl (List.mem_of_getElem? (i := 803) (by decide +kernel)), Or.inr (List.mem_of_getElem? (i := 804) (by decide +kernel))⟩ ⟨(RX8, TX8, 3), "WheelCity$Best", rfl, by decide, iu_6, Or.inl (List.mem_of_getElem? (i := 803) (by decide +kernel)), Or.inr (List.mem_of_getElem? (i := 804) (by decide +kernel))⟩
theorem fl_RX4_13 : k_FL RX4 13 8 9 := ⟨(RX10, TX10, 10), "WheelCity$World", rfl, by decide, iu_8, Or.inr (List.mem_of_getElem? (i := 279) (by decide +kernel)), Or.inl rfl⟩
theorem fl_RX4_19 : ∀ t : Int32, k_FL RX4 19 (k_tag t) 1 := fun t => k_tag5 (P := fun n => k_FL RX4 19 n 1) t ⟨(RX2, TX2, 3), "WheelCity$Loop", rfl, by decide, iu_1, Or.inl (List.mem_of_getElem? (i := 793) (by decide +kernel)), Or.inr (List.mem_of_getElem? (i := 794) (by decide +kernel))⟩ ⟨(RX5, TX5, 3), "WheelCity$Loop", rfl, by decide, iu_4, Or.inl (List.mem_of_getElem? (i := 793) (by decide +kernel)), Or.inr (List.mem_of_getElem? (i := 794) (by decide +kernel))⟩ ⟨(RX4, TX4, 3), "WheelCity$Loop", rfl, by decide, iu_3, Or.inl (List.mem_of_getElem? (i := 793) (by decide +kernel)), Or.inr (List.mem_of_getElem? (i := 794) (by decide +kernel))⟩ ⟨(RX1, TX1, 3), "WheelCity$Loop", rfl, by decide, iu_0, Or.inl (List.mem_of_getElem? (i := 793) (by decide +kernel)), Or.inr (List.mem_of_getElem? (i := 794) (by decide +kernel))⟩ ⟨(RX8, TX8, 3), "WheelCity$Loop", rfl, by decide, iu_6, Or.inl (List.mem_of_getElem? (i := 793) (by decide +kernel)), Or.inr (List.mem_of_getElem? (i := 794) (by decide +kernel))⟩
theorem fl_RX4_7 : ∀ t : Int32, k_FL RX4 7 (k_tag t) 2 := fun t => k_tag5 (P := fun n => k_FL RX4 7 n 2) t ⟨(RX2, TX2, 3), "WheelCity$Loop", rfl, by decide, iu_1, Or.inl (List.mem_of_getElem? (i := 801) (by decide +kernel)), Or.inr (List.mem_of_getElem? (i := 802) (by decide +kernel))⟩ ⟨(RX5, TX5, 3), "WheelCity$Loop", rfl, by decide, iu_4, Or.inl (List.mem_of_getElem? (i := 801) (by decide +kernel)), Or.inr (List.mem_of_getElem? (i := 802) (by decide +kernel))⟩ ⟨(RX4, TX4, 3), "WheelCity$Loop", rfl, by decide, iu_3, Or.inl (List.mem_of_getElem? (i := 801) (by decide +kernel)), Or.inr (List.mem_of_getElem? (i := 802) (by decide +kernel))⟩ ⟨(RX1, TX1, 3), "WheelCity$Loop", rfl, by decide, iu_0, Or.inl (List.mem_of_getElem? (i := 801) (by decide +kernel)), Or.inr (List.mem_of_getElem? (i := 802) (by decide +kernel))⟩ ⟨(RX8, TX8, 3), "WheelCity$Loop", rfl, by decide, iu_6, Or.inl (List.mem_of_getElem? (i := 801) (by decide +kernel)), Or.inr (List.mem_of_getElem? (i := 802) (by decide +kernel))⟩
theorem fl_RX5_17 : k_FL RX5 17 8 4 := ⟨(RX10, TX10, 10), "WheelCity$World", rfl, by decide, iu_8, Or.inr (List.mem_of_getElem? (i := 268) (by decide +kernel)), Or.inl rfl⟩
theorem fl_RX5_40 : ∀ t : Int32, k_FL RX5 40 (k_tag t) 2 := fun t => k_tag5 (P := fun n => k_FL RX5 40 n 2) t ⟨(RX2, TX2, 3), "WheelCity$Near", rfl, by decide, iu_1, Or.inl (List.mem_of_getElem? (i := 805) (by decide +kernel)), Or.inr (List.mem_of_getElem? (i := 806) (by decide +kernel))⟩ ⟨(RX5, TX5, 3), "WheelCity$Near", rfl, by decide, iu_4, Or.inl (List.mem_of_getElem? (i := 805) (by decide +kernel)), Or.inr (List.mem_of_getElem? (i := 806) (by decide +kernel))⟩ ⟨(RX4, TX4, 3), "WheelCity$Near", rfl, by decide, iu_3, Or.inl (List.mem_of_getElem? (i := 805) (by decide +kernel)), Or.inr (List.mem_of_getElem? (i := 806) (by decide +kernel))⟩ ⟨(RX1, TX1, 3), "WheelCity$Near", rfl, by decide, iu_0, Or.inl (List.mem_of_getElem? (i := 805) (by decide +kernel)), Or.inr (List.mem_of_getElem? (i := 806) (by decide +kernel))⟩ ⟨(RX8, TX8, 3), "WheelCity$Near", rfl, by decide, iu_6, Or.inl (List.mem_of_getElem? (i := 805) (by decide +kernel)), Or.inr (List.mem_of_getElem? (i := 806) (by decide +kernel))⟩
theorem fl_RX5_48 : ∀ t : Int32, k_FL RX5 48 (k_tag t) 1 := fun t => k_tag5 (P := fun n => k_FL RX5 48 n 1) t ⟨(RX2, TX2, 3), "WheelCity$Near", rfl, by decide, iu_1, Or.inl (List.mem_of_getElem? (i := 797) (by decide +kernel)), Or.inr (List.mem_of_getElem? (i := 798) (by decide +kernel))⟩ ⟨(RX5, TX5, 3), "WheelCity$Near", rfl, by decide, iu_4, Or.inl (List.mem_of_getElem? (i := 797) (by decide +kernel)), Or.inr (List.mem_of_getElem? (i := 798) (by decide +kernel))⟩ ⟨(RX4, TX4, 3), "WheelCity$Near", rfl, by decide, iu_3, Or.inl (List.mem_of_getElem? (i := 797) (by decide +kernel)), Or.inr (List.mem_of_getElem? (i := 798) (by decide +kernel))⟩ ⟨(RX1, TX1, 3), "WheelCity$Near", rfl, by decide, iu_0, Or.inl (List.mem_of_getElem? (i := 797) (by decide +kernel)), Or.inr (List.mem_of_getElem? (i := 798) (by decide +kernel))⟩ ⟨(RX8, TX8, 3), "WheelCity$Near", rfl, by decide, iu_6, Or.inl (List.mem_of_getElem? (i := 797) (by decide +kernel)), Or.inr (List.mem_of_getElem? (i := 798) (by decide +kernel))⟩
theorem fl_RX5_7 : k_FL RX5 7 8 0 := ⟨(RX10, TX10, 10), "WheelCity$World", rfl, by decide, iu_8, Or.inr (List.mem_of_getElem? (i := 258) (by decide +kernel)), Or.inl rfl⟩
theorem fl_RX6_13 : ∀ t : Int32, k_FL RX6 13 (k_tag t) 1 := fun t => k_tag5 (P := fun n => k_FL RX6 13 n 1) t ⟨(RX2, TX2, 3), "WheelCity$Rule", rfl, by decide, iu_1, Or.inl (List.mem_of_getElem? (i := 792) (by decide +kernel)), Or.inl rfl⟩ ⟨(RX5, TX5, 3), "WheelCity$Rule", rfl, by decide, iu_4, Or.inl (List.mem_of_getElem? (i := 792) (by decide +kernel)), Or.inl rfl⟩ ⟨(RX4, TX4, 3), "WheelCity$Rule", rfl, by decide, iu_3, Or.inl (List.mem_of_getElem? (i := 792) (by decide +kernel)), Or.inl rfl⟩ ⟨(RX1, TX1, 3), "WheelCity$Rule", rfl, by decide, iu_0, Or.inl (List.mem_of_getElem? (i := 792) (by decide +kernel)), Or.inl rfl⟩ ⟨(RX8, TX8, 3), "WheelCity$Rule", rfl, by decide, iu_6, Or.inl (List.mem_of_getElem? (i := 792) (by decide +kernel)), Or.inl rfl⟩
theorem fl_RX6_16 : ∀ t : Int32, k_FL RX6 16 (k_tag t) 2 := fun t => k_tag5 (P := fun n => k_FL RX6 16 n 2) t ⟨(RX2, TX2, 3), "WheelCity$Rule", rfl, by decide, iu_1, Or.inl (List.mem_of_getElem? (i := 800) (by decide +kernel)), Or.inl rfl⟩ ⟨(RX5, TX5, 3), "WheelCity$Rule", rfl, by decide, iu_4, Or.inl (List.mem_of_getElem? (i := 800) (by decide +kernel)), Or.inl rfl⟩ ⟨(RX4, TX4, 3), "WheelCity$Rule", rfl, by decide, iu_3, Or.inl (List.mem_of_getElem? (i := 800) (by decide +kernel)), Or.inl rfl⟩ ⟨(RX1, TX1, 3), "WheelCity$Rule", rfl, by decide, iu_0, Or.inl (List.mem_of_getElem? (i := 800) (by decide +kernel)), Or.inl rfl⟩ ⟨(RX8, TX8, 3), "WheelCity$Rule", rfl, by decide, iu_6, Or.inl (List.mem_of_getElem? (i := 800) (by decide +kernel)), Or.inl rfl⟩
theorem fl_RX6_29 : k_FL RX6 29 7 2 := ⟨(RX9, TX9, 3), "WheelCity$Trace", rfl, by decide, iu_7, Or.inr (List.mem_of_getElem? (i := 317) (by decide +kernel)), Or.inl rfl⟩
theorem fl_RX6_35 : k_FL RX6 35 7 1 := ⟨(RX9, TX9, 3), "WheelCity$Trace", rfl, by decide, iu_7, Or.inr (List.mem_of_getElem? (i := 314) (by decide +kernel)), Or.inl rfl⟩
theorem fl_RX6_38 : k_FL RX6 38 7 0 := ⟨(RX9, TX9, 3), "WheelCity$Trace", rfl, by decide, iu_7, Or.inr (List.mem_of_getElem? (i := 311) (by decide +kernel)), Or.inl rfl⟩
theorem fl_RX6_7 : ∀ t : Int32, k_FL RX6 7 (k_tag t) 0 := fun t => k_tag5 (P := fun n => k_FL RX6 7 n 0) t ⟨(RX2, TX2, 3), "WheelCity$Rule", rfl, by decide, iu_1, Or.inl (List.mem_of_getElem? (i := 790) (by decide +kernel)), Or.inl rfl⟩ ⟨(RX5, TX5, 3), "WheelCity$Rule", rfl, by decide, iu_4, Or.inl (List.mem_of_getElem? (i := 790) (by decide +kernel)), Or.inl rfl⟩ ⟨(RX4, TX4, 3), "WheelCity$Rule", rfl, by decide, iu_3, Or.inl (List.mem_of_getElem? (i := 790) (by decide +kernel)), Or.inl rfl⟩ ⟨(RX1, TX1, 3), "WheelCity$Rule", rfl, by decide, iu_0, Or.inl (List.mem_of_getElem? (i := 790) (by decide +kernel)), Or.inl rfl⟩ ⟨(RX8, TX8, 3), "WheelCity$Rule", rfl, by decide, iu_6, Or.inl (List.mem_of_getElem? (i := 790) (by decide +kernel)), Or.inl rfl⟩
theorem fl_RX8_27 : ∀ t : Int32, k_FL RX8 27 (k_tag t) 2 := fun t => k_tag5 (P := fun n => k_FL RX8 27 n 2) t ⟨(RX2, TX2, 3), "WheelCity$Told", rfl, by decide, iu_1, Or.inl (List.mem_of_getElem? (i := 807) (by decide +kernel)), Or.inr (List.mem_of_getElem? (i := 808) (by decide +kernel))⟩ ⟨(RX5, TX5, 3), "WheelCity$Told", rfl, by decide, iu_4, Or.inl (List.mem_of_getElem? (i := 807) (by decide +kernel)), Or.inr (List.mem_of_getElem? (i := 808) (by decide +kernel))⟩ ⟨(RX4, TX4, 3), "WheelCity$Told", rfl, by decide, iu_3, Or.inl (List.mem_of_getElem? (i := 807) (by decide +kernel)), Or.inr (List.mem_of_getElem? (i := 808) (by decide +kernel))⟩ ⟨(RX1, TX1, 3), "WheelCity$Told", rfl, by decide, iu_0, Or.inl (List.mem_of_getElem? (i := 807) (by decide +kernel)), Or.inr (List.mem_of_getElem? (i := 808) (by decide +kernel))⟩ ⟨(RX8, TX8, 3), "WheelCity$Told", rfl, by decide, iu_6, Or.inl (List.mem_of_getElem? (i := 807) (by decide +kernel)), Or.inr (List.mem_of_getElem? (i := 808) (by decide +kernel))⟩
theorem cy_X0_firstAct : k_cy yX0_firstAct cX0_firstAct 8 (some .int) 2 := ⟨List.mem_of_getElem? (i := 689) (by decide +kernel), List.mem_of_getElem? (i := 119) (by decide +kernel), ⟨by decide +kernel, by decide +kernel⟩, by decide +kernel⟩
theorem cy_X10_can : k_cy yX10_can cX10_can 3 (some .boolean) 1 := ⟨List.mem_of_getElem? (i := 603) (by decide +kernel), List.mem_of_getElem? (i := 109) (by decide +kernel), ⟨by decide +kernel, by decide +kernel⟩, by decide +kernel⟩
theorem cy_X10_leastShed : k_cy yX10_leastShed cX10_leastShed 3 (some .int) 0 := ⟨List.mem_of_getElem? (i := 882) (by decide +kernel), List.mem_of_getElem? (i := 109) (by decide +kernel), ⟨by decide +kernel, by decide +kernel⟩, by decide +kernel⟩
theorem cy_X1_choose : k_cy yX1_choose cX1_choose 3 (some .int) 1 := ⟨List.mem_of_getElem? (i := 874) (by decide +kernel), List.mem_of_getElem? (i := 125) (by decide +kernel), ⟨by decide +kernel, by decide +kernel⟩, by decide +kernel⟩
theorem cy_X1_eats : k_cy yX1_eats cX1_eats 3 (some .int) 2 := ⟨List.mem_of_getElem? (i := 1016) (by decide +kernel), List.mem_of_getElem? (i := 125) (by decide +kernel), ⟨by decide +kernel, by decide +kernel⟩, by decide +kernel⟩
theorem cy_X1_rolls : k_cy yX1_rolls cX1_rolls 3 (some .int) 2 := ⟨List.mem_of_getElem? (i := 994) (by decide +kernel), List.mem_of_getElem? (i := 125) (by decide +kernel), ⟨by decide +kernel, by decide +kernel⟩, by decide +kernel⟩
theorem cy_X2_choose : k_cy yX2_choose cX2_choose 2 (some .int) 1 := ⟨List.mem_of_getElem? (i := 895) (by decide +kernel), List.mem_of_getElem? (i := 122) (by decide +kernel), ⟨by decide +kernel, by decide +kernel⟩, by decide +kernel⟩
theorem cy_X2_rolls : k_cy yX2_rolls cX2_rolls 3 (some .int) 2 := ⟨List.mem_of_getElem? (i := 1004) (by decide +kernel), List.mem_of_getElem? (i := 122) (by decide +kernel), ⟨by decide +kernel, by decide +kernel⟩, by decide +kernel⟩
theorem cy_X3_nearestFor : k_cy yX3_nearestFor cX3_nearestFor 6 (some .int) 2 := ⟨List.mem_of_getElem? (i := 886) (by decide +kernel), List.mem_of_getElem? (i := 110) (by decide +kernel), ⟨by decide +kernel, by decide +kernel⟩, by decide +kernel⟩
theorem cy_X3_wayTowards : k_cy yX3_wayTowards cX3_wayTowards 5 (some .int) 2 := ⟨List.mem_of_getElem? (i := 891) (by decide +kernel), List.mem_of_getElem? (i := 110) (by decide +kernel), ⟨by decide +kernel, by decide +kernel⟩, by decide +kernel⟩
theorem cy_X4_choose : k_cy yX4_choose cX4_choose 2 (some .int) 1 := ⟨List.mem_of_getElem? (i := 898) (by decide +kernel), List.mem_of_getElem? (i := 124) (by decide +kernel), ⟨by decide +kernel, by decide +kernel⟩, by decide +kernel⟩
theorem cy_X4_init : k_cy yX4_init cX4_init 4 none 3 := ⟨List.mem_of_getElem? (i := 831) (by decide +kernel), List.mem_of_getElem? (i := 124) (by decide +kernel), ⟨by decide +kernel, by decide +kernel⟩, by decide +kernel⟩
theorem cy_X4_shares : k_cy yX4_shares cX4_shares 3 (some .int) 2 := ⟨List.mem_of_getElem? (i := 1037) (by decide +kernel), List.mem_of_getElem? (i := 124) (by decide +kernel), ⟨by decide +kernel, by decide +kernel⟩, by decide +kernel⟩
theorem cy_X5_choose : k_cy yX5_choose cX5_choose 3 (some .int) 1 := ⟨List.mem_of_getElem? (i := 878) (by decide +kernel), List.mem_of_getElem? (i := 123) (by decide +kernel), ⟨by decide +kernel, by decide +kernel⟩, by decide +kernel⟩
theorem cy_X5_eats : k_cy yX5_eats cX5_eats 3 (some .int) 2 := ⟨List.mem_of_getElem? (i := 1019) (by decide +kernel), List.mem_of_getElem? (i := 123) (by decide +kernel), ⟨by decide +kernel, by decide +kernel⟩, by decide +kernel⟩
theorem cy_X5_init : k_cy yX5_init cX5_init 4 none 3 := ⟨List.mem_of_getElem? (i := 821) (by decide +kernel), List.mem_of_getElem? (i := 123) (by decide +kernel), ⟨by decide +kernel, by decide +kernel⟩, by decide +kernel⟩
theorem cy_X5_tells : k_cy yX5_tells cX5_tells 3 (some .int) 2 := ⟨List.mem_of_getElem? (i := 1056) (by decide +kernel), List.mem_of_getElem? (i := 123) (by decide +kernel), ⟨by decide +kernel, by decide +kernel⟩, by decide +kernel⟩
theorem cy_X6_eats : k_cy yX6_eats cX6_eats 3 (some .int) 2 := ⟨List.mem_of_getElem? (i := 1027) (by decide +kernel), List.mem_of_getElem? (i := 121) (by decide +kernel), ⟨by decide +kernel, by decide +kernel⟩, by decide +kernel⟩
theorem cy_X6_init : k_cy yX6_init cX6_init 4 none 3 := ⟨List.mem_of_getElem? (i := 788) (by decide +kernel), List.mem_of_getElem? (i := 121) (by decide +kernel), ⟨by decide +kernel, by decide +kernel⟩, by decide +kernel⟩
theorem cy_X6_isOf : k_cy yX6_isOf cX6_isOf 2 (some .boolean) 1 := ⟨List.mem_of_getElem? (i := 975) (by decide +kernel), List.mem_of_getElem? (i := 121) (by decide +kernel), ⟨by decide +kernel, by decide +kernel⟩, by decide +kernel⟩
theorem cy_X6_rolls : k_cy yX6_rolls cX6_rolls 3 (some .int) 2 := ⟨List.mem_of_getElem? (i := 1010) (by decide +kernel), List.mem_of_getElem? (i := 121) (by decide +kernel), ⟨by decide +kernel, by decide +kernel⟩, by decide +kernel⟩
theorem cy_X6_shares : k_cy yX6_shares cX6_shares 4 (some .int) 2 := ⟨List.mem_of_getElem? (i := 1050) (by decide +kernel), List.mem_of_getElem? (i := 121) (by decide +kernel), ⟨by decide +kernel, by decide +kernel⟩, by decide +kernel⟩
theorem cy_X6_tells : k_cy yX6_tells cX6_tells 3 (some .int) 2 := ⟨List.mem_of_getElem? (i := 1072) (by decide +kernel), List.mem_of_getElem? (i := 121) (by decide +kernel), ⟨by decide +kernel, by decide +kernel⟩, by decide +kernel⟩
theorem cy_X8_choose : k_cy yX8_choose cX8_choose 3 (some .int) 1 := ⟨List.mem_of_getElem? (i := 902) (by decide +kernel), List.mem_of_getElem? (i := 126) (by decide +kernel), ⟨by decide +kernel, by decide +kernel⟩, by decide +kernel⟩
theorem cy_X8_shares : k_cy yX8_shares cX8_shares 3 (some .int) 2 := ⟨List.mem_of_getElem? (i := 1043) (by decide +kernel), List.mem_of_getElem? (i := 126) (by decide +kernel), ⟨by decide +kernel, by decide +kernel⟩, by decide +kernel⟩
theorem cy_X8_tells : k_cy yX8_tells cX8_tells 3 (some .int) 2 := ⟨List.mem_of_getElem? (i := 1068) (by decide +kernel), List.mem_of_getElem? (i := 126) (by decide +kernel), ⟨by decide +kernel, by decide +kernel⟩, by decide +kernel⟩
theorem cy_X9_begin : k_cy yX9_begin cX9_begin 2 none 1 := ⟨List.mem_of_getElem? (i := 998) (by decide +kernel), List.mem_of_getElem? (i := 111) (by decide +kernel), ⟨by decide +kernel, by decide +kernel⟩, by decide +kernel⟩
theorem lk_RX1_3 : k_lk RX1 3 yX5_init := Or.inl (List.mem_of_getElem? (i := 842) (by decide +kernel))
theorem lk_RX1_15 : k_lk RX1 15 yX0_firstAct := Or.inr (List.mem_of_getElem? (i := 875) (by decide +kernel))
theorem lk_RX1_25 : k_lk RX1 25 yX9_begin := Or.inr (List.mem_of_getElem? (i := 995) (by decide +kernel))
theorem lk_RX2_1 : k_lk RX2 1 yX6_init := Or.inl (List.mem_of_getElem? (i := 786) (by decide +kernel))
theorem lk_RX2_7 : k_lk RX2 7 yX9_begin := Or.inr (List.mem_of_getElem? (i := 1005) (by decide +kernel))
theorem lk_RX4_1 : k_lk RX4 1 yX6_init := Or.inl (List.mem_of_getElem? (i := 832) (by decide +kernel))
theorem lk_RX4_22 : k_lk RX4 22 yX9_begin := Or.inr (List.mem_of_getElem? (i := 1038) (by decide +kernel))
theorem lk_RX5_1 : k_lk RX5 1 yX6_init := Or.inl (List.mem_of_getElem? (i := 822) (by decide +kernel))
theorem lk_RX5_13 : k_lk RX5 13 yX10_leastShed := Or.inr (List.mem_of_getElem? (i := 879) (by decide +kernel))
theorem lk_RX5_21 : k_lk RX5 21 yX3_nearestFor := Or.inr (List.mem_of_getElem? (i := 883) (by decide +kernel))
theorem lk_RX5_27 : k_lk RX5 27 yX3_wayTowards := Or.inr (List.mem_of_getElem? (i := 888) (by decide +kernel))
theorem lk_RX5_30 : k_lk RX5 30 yX9_begin := Or.inr (List.mem_of_getElem? (i := 1020) (by decide +kernel))
theorem lk_RX6_42 : k_lk RX6 42 yX9_begin := Or.inr (List.mem_of_getElem? (i := 1028) (by decide +kernel))
theorem lk_RX8_1 : k_lk RX8 1 yX4_init := Or.inl (List.mem_of_getElem? (i := 852) (by decide +kernel))
theorem lk_RX8_11 : k_lk RX8 11 yX10_can := Or.inr (List.mem_of_getElem? (i := 904) (by decide +kernel))
theorem lk_RX8_17 : k_lk RX8 17 yX9_begin := Or.inr (List.mem_of_getElem? (i := 1044) (by decide +kernel))
theorem im_X10_can : Cond.instanceMethod yX10_can ∈ lw_tbl := List.mem_of_getElem? (i := 602) (by decide +kernel)
theorem im_X10_leastShed : Cond.instanceMethod yX10_leastShed ∈ lw_tbl := List.mem_of_getElem? (i := 881) (by decide +kernel)
theorem im_X1_choose : Cond.instanceMethod yX1_choose ∈ lw_tbl := List.mem_of_getElem? (i := 873) (by decide +kernel)
theorem im_X1_eats : Cond.instanceMethod yX1_eats ∈ lw_tbl := List.mem_of_getElem? (i := 1015) (by decide +kernel)
theorem im_X1_rolls : Cond.instanceMethod yX1_rolls ∈ lw_tbl := List.mem_of_getElem? (i := 993) (by decide +kernel)
theorem im_X2_choose : Cond.instanceMethod yX2_choose ∈ lw_tbl := List.mem_of_getElem? (i := 894) (by decide +kernel)
theorem im_X2_rolls : Cond.instanceMethod yX2_rolls ∈ lw_tbl := List.mem_of_getElem? (i := 1003) (by decide +kernel)
theorem im_X3_nearestFor : Cond.instanceMethod yX3_nearestFor ∈ lw_tbl := List.mem_of_getElem? (i := 885) (by decide +kernel)
theorem im_X3_wayTowards : Cond.instanceMethod yX3_wayTowards ∈ lw_tbl := List.mem_of_getElem? (i := 890) (by decide +kernel)
theorem im_X4_choose : Cond.instanceMethod yX4_choose ∈ lw_tbl := List.mem_of_getElem? (i := 897) (by decide +kernel)
theorem im_X4_init : Cond.instanceMethod yX4_init ∈ lw_tbl := List.mem_of_getElem? (i := 830) (by decide +kernel)
theorem im_X4_shares : Cond.instanceMethod yX4_shares ∈ lw_tbl := List.mem_of_getElem? (i := 1036) (by decide +kernel)
theorem im_X5_choose : Cond.instanceMethod yX5_choose ∈ lw_tbl := List.mem_of_getElem? (i := 877) (by decide +kernel)
theorem im_X5_eats : Cond.instanceMethod yX5_eats ∈ lw_tbl := List.mem_of_getElem? (i := 1018) (by decide +kernel)
theorem im_X5_init : Cond.instanceMethod yX5_init ∈ lw_tbl := List.mem_of_getElem? (i := 820) (by decide +kernel)
theorem im_X5_tells : Cond.instanceMethod yX5_tells ∈ lw_tbl := List.mem_of_getElem? (i := 1055) (by decide +kernel)
theorem im_X6_eats : Cond.instanceMethod yX6_eats ∈ lw_tbl := List.mem_of_getElem? (i := 1012) (by decide +kernel)
theorem im_X6_init : Cond.instanceMethod yX6_init ∈ lw_tbl := List.mem_of_getElem? (i := 787) (by decide +kernel)
theorem im_X6_isOf : Cond.instanceMethod yX6_isOf ∈ lw_tbl := List.mem_of_getElem? (i := 968) (by decide +kernel)
theorem im_X6_rolls : Cond.instanceMethod yX6_rolls ∈ lw_tbl := List.mem_of_getElem? (i := 990) (by decide +kernel)
theorem im_X6_shares : Cond.instanceMethod yX6_shares ∈ lw_tbl := List.mem_of_getElem? (i := 1031) (by decide +kernel)
theorem im_X6_tells : Cond.instanceMethod yX6_tells ∈ lw_tbl := List.mem_of_getElem? (i := 1052) (by decide +kernel)
theorem im_X8_choose : Cond.instanceMethod yX8_choose ∈ lw_tbl := List.mem_of_getElem? (i := 901) (by decide +kernel)
theorem im_X8_shares : Cond.instanceMethod yX8_shares ∈ lw_tbl := List.mem_of_getElem? (i := 1042) (by decide +kernel)
theorem im_X8_tells : Cond.instanceMethod yX8_tells ∈ lw_tbl := List.mem_of_getElem? (i := 1067) (by decide +kernel)
theorem im_X9_begin : Cond.instanceMethod yX9_begin ∈ lw_tbl := List.mem_of_getElem? (i := 997) (by decide +kernel)
theorem se_X10_can : Cond.selects yX10_can.cls yX10_can yX10_can ∈ lw_tbl := List.mem_of_getElem? (i := 24) (by decide +kernel)
theorem se_X10_leastShed : Cond.selects yX10_leastShed.cls yX10_leastShed yX10_leastShed ∈ lw_tbl := List.mem_of_getElem? (i := 45) (by decide +kernel)
theorem se_X3_nearestFor : Cond.selects yX3_nearestFor.cls yX3_nearestFor yX3_nearestFor ∈ lw_tbl := List.mem_of_getElem? (i := 46) (by decide +kernel)
theorem se_X3_wayTowards : Cond.selects yX3_wayTowards.cls yX3_wayTowards yX3_wayTowards ∈ lw_tbl := List.mem_of_getElem? (i := 47) (by decide +kernel)
theorem se_X9_begin : Cond.selects yX9_begin.cls yX9_begin yX9_begin ∈ lw_tbl := List.mem_of_getElem? (i := 53) (by decide +kernel)
theorem stt_X0_firstAct : Cond.static yX0_firstAct ∈ lw_tbl := List.mem_of_getElem? (i := 688) (by decide +kernel)
theorem oi_RX6_1 : Cond.methodLink RX6 1 objectInit ∈ lw_tbl := List.mem_of_getElem? (i := 789) (by decide +kernel)
theorem su_RX1_21 : Cond.methodLink RX1 21 ⟨"WheelCity$Near", "choose", "(LWheelCity$World;)I"⟩ ∈ lw_tbl ∧ Cond.sameMethod "WheelCity$Near" yX5_choose.cls "choose" "(LWheelCity$World;)I" ∈ lw_tbl ∧ Cond.superclass RX1 "WheelCity$Near" ∈ lw_tbl ∧ ("WheelCity$Near" = yX5_choose.cls ∨ Cond.superclass "WheelCity$Near" yX5_choose.cls ∈ lw_tbl) := ⟨List.mem_of_getElem? (i := 876) (by decide +kernel), List.mem_of_getElem? (i := 1669) (by decide +kernel), List.mem_of_getElem? (i := 846) (by decide +kernel), Or.inl rfl⟩
theorem su_RX1_31 : Cond.methodLink RX1 31 ⟨"WheelCity$Near", "rolls", "(ILWheelCity$Trace;)I"⟩ ∈ lw_tbl ∧ Cond.sameMethod "WheelCity$Near" yX6_rolls.cls "rolls" "(ILWheelCity$Trace;)I" ∈ lw_tbl ∧ Cond.superclass RX1 "WheelCity$Near" ∈ lw_tbl ∧ ("WheelCity$Near" = yX6_rolls.cls ∨ Cond.superclass "WheelCity$Near" yX6_rolls.cls ∈ lw_tbl) := ⟨List.mem_of_getElem? (i := 999) (by decide +kernel), List.mem_of_getElem? (i := 1000) (by decide +kernel), List.mem_of_getElem? (i := 846) (by decide +kernel), Or.inr (List.mem_of_getElem? (i := 826) (by decide +kernel))⟩
theorem su_RX1_35 : Cond.methodLink RX1 35 ⟨"WheelCity$Near", "eats", "(ILWheelCity$Trace;)I"⟩ ∈ lw_tbl ∧ Cond.sameMethod "WheelCity$Near" yX5_eats.cls "eats" "(ILWheelCity$Trace;)I" ∈ lw_tbl ∧ Cond.superclass RX1 "WheelCity$Near" ∈ lw_tbl ∧ ("WheelCity$Near" = yX5_eats.cls ∨ Cond.superclass "WheelCity$Near" yX5_eats.cls ∈ lw_tbl) := ⟨List.mem_of_getElem? (i := 1017) (by decide +kernel), List.mem_of_getElem? (i := 1671) (by decide +kernel), List.mem_of_getElem? (i := 846) (by decide +kernel), Or.inl rfl⟩
theorem su_RX2_13 : Cond.methodLink RX2 13 ⟨"WheelCity$Rule", "rolls", "(ILWheelCity$Trace;)I"⟩ ∈ lw_tbl ∧ Cond.sameMethod "WheelCity$Rule" yX6_rolls.cls "rolls" "(ILWheelCity$Trace;)I" ∈ lw_tbl ∧ Cond.superclass RX2 "WheelCity$Rule" ∈ lw_tbl ∧ ("WheelCity$Rule" = yX6_rolls.cls ∨ Cond.superclass "WheelCity$Rule" yX6_rolls.cls ∈ lw_tbl) := ⟨List.mem_of_getElem? (i := 1006) (by decide +kernel), List.mem_of_getElem? (i := 991) (by decide +kernel), List.mem_of_getElem? (i := 816) (by decide +kernel), Or.inl rfl⟩
theorem su_RX4_28 : Cond.methodLink RX4 28 ⟨"WheelCity$Rule", "shares", "(ILWheelCity$Trace;)I"⟩ ∈ lw_tbl ∧ Cond.sameMethod "WheelCity$Rule" yX6_shares.cls "shares" "(ILWheelCity$Trace;)I" ∈ lw_tbl ∧ Cond.superclass RX4 "WheelCity$Rule" ∈ lw_tbl ∧ ("WheelCity$Rule" = yX6_shares.cls ∨ Cond.superclass "WheelCity$Rule" yX6_shares.cls ∈ lw_tbl) := ⟨List.mem_of_getElem? (i := 1039) (by decide +kernel), List.mem_of_getElem? (i := 1032) (by decide +kernel), List.mem_of_getElem? (i := 836) (by decide +kernel), Or.inl rfl⟩
theorem su_RX5_36 : Cond.methodLink RX5 36 ⟨"WheelCity$Rule", "eats", "(ILWheelCity$Trace;)I"⟩ ∈ lw_tbl ∧ Cond.sameMethod "WheelCity$Rule" yX6_eats.cls "eats" "(ILWheelCity$Trace;)I" ∈ lw_tbl ∧ Cond.superclass RX5 "WheelCity$Rule" ∈ lw_tbl ∧ ("WheelCity$Rule" = yX6_eats.cls ∨ Cond.superclass "WheelCity$Rule" yX6_eats.cls ∈ lw_tbl) := ⟨List.mem_of_getElem? (i := 1021) (by decide +kernel), List.mem_of_getElem? (i := 1013) (by decide +kernel), List.mem_of_getElem? (i := 826) (by decide +kernel), Or.inl rfl⟩
theorem su_RX5_45 : Cond.methodLink RX5 45 ⟨"WheelCity$Rule", "tells", "(ILWheelCity$Trace;)I"⟩ ∈ lw_tbl ∧ Cond.sameMethod "WheelCity$Rule" yX6_tells.cls "tells" "(ILWheelCity$Trace;)I" ∈ lw_tbl ∧ Cond.superclass RX5 "WheelCity$Rule" ∈ lw_tbl ∧ ("WheelCity$Rule" = yX6_tells.cls ∨ Cond.superclass "WheelCity$Rule" yX6_tells.cls ∈ lw_tbl) := ⟨List.mem_of_getElem? (i := 1057) (by decide +kernel), List.mem_of_getElem? (i := 1053) (by decide +kernel), List.mem_of_getElem? (i := 826) (by decide +kernel), Or.inl rfl⟩
theorem su_RX8_7 : Cond.methodLink RX8 7 ⟨"WheelCity$Loop", "choose", "(LWheelCity$World;)I"⟩ ∈ lw_tbl ∧ Cond.sameMethod "WheelCity$Loop" yX4_choose.cls "choose" "(LWheelCity$World;)I" ∈ lw_tbl ∧ Cond.superclass RX8 "WheelCity$Loop" ∈ lw_tbl ∧ ("WheelCity$Loop" = yX4_choose.cls ∨ Cond.superclass "WheelCity$Loop" yX4_choose.cls ∈ lw_tbl) := ⟨List.mem_of_getElem? (i := 903) (by decide +kernel), List.mem_of_getElem? (i := 1670) (by decide +kernel), List.mem_of_getElem? (i := 856) (by decide +kernel), Or.inl rfl⟩
theorem su_RX8_23 : Cond.methodLink RX8 23 ⟨"WheelCity$Loop", "shares", "(ILWheelCity$Trace;)I"⟩ ∈ lw_tbl ∧ Cond.sameMethod "WheelCity$Loop" yX4_shares.cls "shares" "(ILWheelCity$Trace;)I" ∈ lw_tbl ∧ Cond.superclass RX8 "WheelCity$Loop" ∈ lw_tbl ∧ ("WheelCity$Loop" = yX4_shares.cls ∨ Cond.superclass "WheelCity$Loop" yX4_shares.cls ∈ lw_tbl) := ⟨List.mem_of_getElem? (i := 1045) (by decide +kernel), List.mem_of_getElem? (i := 1673) (by decide +kernel), List.mem_of_getElem? (i := 856) (by decide +kernel), Or.inl rfl⟩
theorem su_RX8_36 : Cond.methodLink RX8 36 ⟨"WheelCity$Loop", "tells", "(ILWheelCity$Trace;)I"⟩ ∈ lw_tbl ∧ Cond.sameMethod "WheelCity$Loop" yX6_tells.cls "tells" "(ILWheelCity$Trace;)I" ∈ lw_tbl ∧ Cond.superclass RX8 "WheelCity$Loop" ∈ lw_tbl ∧ ("WheelCity$Loop" = yX6_tells.cls ∨ Cond.superclass "WheelCity$Loop" yX6_tells.cls ∈ lw_tbl) := ⟨List.mem_of_getElem? (i := 1069) (by decide +kernel), List.mem_of_getElem? (i := 1070) (by decide +kernel), List.mem_of_getElem? (i := 856) (by decide +kernel), Or.inr (List.mem_of_getElem? (i := 836) (by decide +kernel))⟩
theorem vl_RX1_41 : Cond.methodLink RX1 41 ⟨"WheelCity$Best", "rolls", "(ILWheelCity$Trace;)I"⟩ ∈ lw_tbl := List.mem_of_getElem? (i := 1022) (by decide +kernel)
theorem vl_RX5_51 : Cond.methodLink RX5 51 ⟨"WheelCity$Near", "shares", "(ILWheelCity$Trace;)I"⟩ ∈ lw_tbl := List.mem_of_getElem? (i := 1058) (by decide +kernel)
theorem vl_RX6_46 : Cond.methodLink RX6 46 ⟨"WheelCity$Rule", "rolls", "(ILWheelCity$Trace;)I"⟩ ∈ lw_tbl := List.mem_of_getElem? (i := 1029) (by decide +kernel)
theorem vl_RX6_50 : Cond.methodLink RX6 50 ⟨"WheelCity$Rule", "eats", "(ILWheelCity$Trace;)I"⟩ ∈ lw_tbl := List.mem_of_getElem? (i := 1073) (by decide +kernel)
theorem vl_RX8_33 : Cond.methodLink RX8 33 ⟨"WheelCity$Told", "eats", "(ILWheelCity$Trace;)I"⟩ ∈ lw_tbl := List.mem_of_getElem? (i := 1046) (by decide +kernel)
theorem cl_RX6_19 : Cond.classLink RX6 19 "WheelCity$Camp" ∈ lw_tbl := List.mem_of_getElem? (i := 976) (by decide +kernel)
theorem cl_RX6_21 : Cond.classLink RX6 21 "WheelCity$Near" ∈ lw_tbl := List.mem_of_getElem? (i := 977) (by decide +kernel)
theorem cl_RX6_23 : Cond.classLink RX6 23 "WheelCity$Loop" ∈ lw_tbl := List.mem_of_getElem? (i := 978) (by decide +kernel)
theorem cl_RX6_25 : Cond.classLink RX6 25 "WheelCity$Best" ∈ lw_tbl := List.mem_of_getElem? (i := 979) (by decide +kernel)
theorem cl_RX6_27 : Cond.classLink RX6 27 "WheelCity$Told" ∈ lw_tbl := List.mem_of_getElem? (i := 980) (by decide +kernel)
theorem tbR : ∀ t : Int32, k_tbs (k_tag t) := fun t => k_tag5 (P := fun n => k_tbs n) t tb_1 tb_4 tb_3 tb_0 tb_6
theorem pf_RX6_7 : (∀ t : Int32, ∀ r, vwCl[k_tag t]? = some r → ((r.2.1 0).2.2.2 = true ∧ (r.2.1 0).1 = RX6) ∧ parseFieldDescriptor (r.2.1 0).2.2.1 = some .int) ∧ (∀ t : Int32, ∀ r, vwCl[k_tag t]? = some r → Cond.fieldLink RX6 7 (r.2.1 0).1 (r.2.1 0).2.1 (r.2.1 0).2.2.1 ∈ lw_tbl) := ⟨fun t => k_tag5 (P := fun n => ∀ r, vwCl[n]? = some r → ((r.2.1 0).2.2.2 = true ∧ (r.2.1 0).1 = RX6) ∧ parseFieldDescriptor (r.2.1 0).2.2.1 = some .int) t (fun r hr => by cases hr; exact ⟨⟨rfl, rfl⟩, by decide +kernel⟩) (fun r hr => by cases hr; exact ⟨⟨rfl, rfl⟩, by decide +kernel⟩) (fun r hr => by cases hr; exact ⟨⟨rfl, rfl⟩, by decide +kernel⟩) (fun r hr => by cases hr; exact ⟨⟨rfl, rfl⟩, by decide +kernel⟩) (fun r hr => by cases hr; exact ⟨⟨rfl, rfl⟩, by decide +kernel⟩), fun t => k_tag5 (P := fun n => ∀ r, vwCl[n]? = some r → Cond.fieldLink RX6 7 (r.2.1 0).1 (r.2.1 0).2.1 (r.2.1 0).2.2.1 ∈ lw_tbl) t (fun r hr => by cases hr; exact List.mem_of_getElem? (i := 790) (by decide +kernel)) (fun r hr => by cases hr; exact List.mem_of_getElem? (i := 790) (by decide +kernel)) (fun r hr => by cases hr; exact List.mem_of_getElem? (i := 790) (by decide +kernel)) (fun r hr => by cases hr; exact List.mem_of_getElem? (i := 790) (by decide +kernel)) (fun r hr => by cases hr; exact List.mem_of_getElem? (i := 790) (by decide +kernel))⟩
theorem pf_RX6_13 : (∀ t : Int32, ∀ r, vwCl[k_tag t]? = some r → ((r.2.1 1).2.2.2 = true ∧ (r.2.1 1).1 = RX6) ∧ parseFieldDescriptor (r.2.1 1).2.2.1 = some .int) ∧ (∀ t : Int32, ∀ r, vwCl[k_tag t]? = some r → Cond.fieldLink RX6 13 (r.2.1 1).1 (r.2.1 1).2.1 (r.2.1 1).2.2.1 ∈ lw_tbl) := ⟨fun t => k_tag5 (P := fun n => ∀ r, vwCl[n]? = some r → ((r.2.1 1).2.2.2 = true ∧ (r.2.1 1).1 = RX6) ∧ parseFieldDescriptor (r.2.1 1).2.2.1 = some .int) t (fun r hr => by cases hr; exact ⟨⟨rfl, rfl⟩, by decide +kernel⟩) (fun r hr => by cases hr; exact ⟨⟨rfl, rfl⟩, by decide +kernel⟩) (fun r hr => by cases hr; exact ⟨⟨rfl, rfl⟩, by decide +kernel⟩) (fun r hr => by cases hr; exact ⟨⟨rfl, rfl⟩, by decide +kernel⟩) (fun r hr => by cases hr; exact ⟨⟨rfl, rfl⟩, by decide +kernel⟩), fun t => k_tag5 (P := fun n => ∀ r, vwCl[n]? = some r → Cond.fieldLink RX6 13 (r.2.1 1).1 (r.2.1 1).2.1 (r.2.1 1).2.2.1 ∈ lw_tbl) t (fun r hr => by cases hr; exact List.mem_of_getElem? (i := 792) (by decide +kernel)) (fun r hr => by cases hr; exact List.mem_of_getElem? (i := 792) (by decide +kernel)) (fun r hr => by cases hr; exact List.mem_of_getElem? (i := 792) (by decide +kernel)) (fun r hr => by cases hr; exact List.mem_of_getElem? (i := 792) (by decide +kernel)) (fun r hr => by cases hr; exact List.mem_of_getElem? (i := 792) (by decide +kernel))⟩
theorem pf_RX6_16 : (∀ t : Int32, ∀ r, vwCl[k_tag t]? = some r → ((r.2.1 2).2.2.2 = true ∧ (r.2.1 2).1 = RX6) ∧ parseFieldDescriptor (r.2.1 2).2.2.1 = some .int) ∧ (∀ t : Int32, ∀ r, vwCl[k_tag t]? = some r → Cond.fieldLink RX6 16 (r.2.1 2).1 (r.2.1 2).2.1 (r.2.1 2).2.2.1 ∈ lw_tbl) := ⟨fun t => k_tag5 (P := fun n => ∀ r, vwCl[n]? = some r → ((r.2.1 2).2.2.2 = true ∧ (r.2.1 2).1 = RX6) ∧ parseFieldDescriptor (r.2.1 2).2.2.1 = some .int) t (fun r hr => by cases hr; exact ⟨⟨rfl, rfl⟩, by decide +kernel⟩) (fun r hr => by cases hr; exact ⟨⟨rfl, rfl⟩, by decide +kernel⟩) (fun r hr => by cases hr; exact ⟨⟨rfl, rfl⟩, by decide +kernel⟩) (fun r hr => by cases hr; exact ⟨⟨rfl, rfl⟩, by decide +kernel⟩) (fun r hr => by cases hr; exact ⟨⟨rfl, rfl⟩, by decide +kernel⟩), fun t => k_tag5 (P := fun n => ∀ r, vwCl[n]? = some r → Cond.fieldLink RX6 16 (r.2.1 2).1 (r.2.1 2).2.1 (r.2.1 2).2.2.1 ∈ lw_tbl) t (fun r hr => by cases hr; exact List.mem_of_getElem? (i := 800) (by decide +kernel)) (fun r hr => by cases hr; exact List.mem_of_getElem? (i := 800) (by decide +kernel)) (fun r hr => by cases hr; exact List.mem_of_getElem? (i := 800) (by decide +kernel)) (fun r hr => by cases hr; exact List.mem_of_getElem? (i := 800) (by decide +kernel)) (fun r hr => by cases hr; exact List.mem_of_getElem? (i := 800) (by decide +kernel))⟩
theorem dt_X6_init_0 : k_dec cX6_init [(0, .aload_n 0, 1), (1, .invokespecial 1, 3), (4, .aload_n 0, 1), (5, .iload_n 1, 1), (6, .putfield 7, 3), (9, .aload_n 0, 1), (10, .iload_n 2, 1), (11, .putfield 13, 3), (14, .aload_n 0, 1), (15, .iload_n 3, 1), (16, .putfield 16, 3), (19, .return_, 1)] = true := by decide +kernel
def f_X6_init (a0 : Nat) (p1 : Int32) (p2 : Int32) (p3 : Int32) (M : k_M) : Option (Unit × k_M) := pFR M a0 0 p1 (fun M1 => pFR M1 a0 1 p2 (fun M2 => pFR M2 a0 2 p3 (fun M3 => some ((), M3))))
theorem m_X6_init_0 {Z : k_Z} {G : k_G} {a0 : Nat} (C : k_C Z G RX6 cX6_init (true, 4, 1, 0, 0) none "<init>") (p1 : Int32) (p2 : Int32) (p3 : Int32) (M : k_M) : Sm Z G emV (true, 4, 1, 0, 0) (0, 0) 0 [(0, k_ra Z a0), (1, Value.int p1), (2, Value.int p2), (3, Value.int p3)] [] M (f_X6_init a0 p1 p2 p3 M) := by
  show Sm Z G emV _ _ _ _ _ _ (pFR M a0 0 p1 (fun M1 => pFR M1 a0 1 p2 (fun M2 => pFR M2 a0 2 p3 (fun M3 => some ((), M3)))))
  refine x_aload_n C (k_dg dt_X6_init_0 0 0 (.aload_n 0) 1 rfl) 0 rfl ?_
  refine x_objI C oi_RX6_1 (by decide) (Nat.le_of_ble_eq_true rfl) (k_dg dt_X6_init_0 1 1 (.invokespecial 1) 3 rfl) ?_
  refine x_aload_n C (k_dg dt_X6_init_0 2 4 (.aload_n 0) 1 rfl) 0 rfl ?_
  refine x_iload_n C (k_dg dt_X6_init_0 3 5 (.iload_n 1) 1 rfl) 1 rfl ?_
  refine x_putFR C (a := a0) (j := 0) (by decide) rfl fl_RX6_7 tbR pf_RX6_7.1 pf_RX6_7.2 (k_dg dt_X6_init_0 4 6 (.putfield 7) 3 rfl) (fun M1 => ?_)
  refine x_aload_n C (k_dg dt_X6_init_0 5 9 (.aload_n 0) 1 rfl) 0 rfl ?_
  refine x_iload_n C (k_dg dt_X6_init_0 6 10 (.iload_n 2) 1 rfl) 2 rfl ?_
  refine x_putFR C (a := a0) (j := 1) (by decide) rfl fl_RX6_13 tbR pf_RX6_13.1 pf_RX6_13.2 (k_dg dt_X6_init_0 7 11 (.putfield 13) 3 rfl) (fun M2 => ?_)
  refine x_aload_n C (k_dg dt_X6_init_0 8 14 (.aload_n 0) 1 rfl) 0 rfl ?_
  refine x_iload_n C (k_dg dt_X6_init_0 9 15 (.iload_n 3) 1 rfl) 3 rfl ?_
  refine x_putFR C (a := a0) (j := 2) (by decide) rfl fl_RX6_16 tbR pf_RX6_16.1 pf_RX6_16.2 (k_dg dt_X6_init_0 10 16 (.putfield 16) 3 rfl) (fun M3 => ?_)
  exact x_vret C (by decide) (by decide) (k_dg dt_X6_init_0 11 19 (.return_) 1 rfl)
theorem c_X6_init {Z : k_Z} (hg : k_Gd Z) (l : Launch) (a0 : Nat) (p1 : Int32) (p2 : Int32) (p3 : Int32) (M : k_M) : Con true Z l yX6_init cX6_init 4 none 1 0 0 emV [k_ra Z a0, Value.int p1, Value.int p2, Value.int p3] M (f_X6_init a0 p1 p2 p3 M) := k_con hg (by decide) (Nat.le_of_ble_eq_true rfl) (fun G hl C => m_X6_init_0 C p1 p2 p3 M)
theorem dt_X2_init_0 : k_dec cX2_init [(0, .aload_n 0, 1), (1, .iload_n 1, 1), (2, .iload_n 2, 1), (3, .iload_n 3, 1), (4, .invokespecial 1, 3), (7, .return_, 1)] = true := by decide +kernel
def f_X2_init (a0 : Nat) (p1 : Int32) (p2 : Int32) (p3 : Int32) (M : k_M) : Option (Unit × k_M) := bd (f_X6_init a0 p1 p2 p3 M) (fun r1 M2 => some ((), M2))
theorem m_X2_init_0 {Z : k_Z} {G : k_G} {a0 : Nat} (C : k_C Z G RX2 cX2_init (true, 4, 2, 0, 0) none "<init>") (p1 : Int32) (p2 : Int32) (p3 : Int32) (M : k_M) : Sm Z G emV (true, 4, 2, 0, 0) (0, 0) 0 [(0, k_ra Z a0), (1, Value.int p1), (2, Value.int p2), (3, Value.int p3)] [] M (f_X2_init a0 p1 p2 p3 M) := by
  show Sm Z G emV _ _ _ _ _ _ (bd (f_X6_init a0 p1 p2 p3 M) (fun r1 M2 => some ((), M2)))
  refine x_aload_n C (k_dg dt_X2_init_0 0 0 (.aload_n 0) 1 rfl) 0 rfl ?_
  refine x_iload_n C (k_dg dt_X2_init_0 1 1 (.iload_n 1) 1 rfl) 1 rfl ?_
  refine x_iload_n C (k_dg dt_X2_init_0 2 2 (.iload_n 2) 1 rfl) 2 rfl ?_
  refine x_iload_n C (k_dg dt_X2_init_0 3 3 (.iload_n 3) 1 rfl) 3 rfl ?_
  refine x_callI C (b := k_h Z + a0) (vs := [Value.int p1, Value.int p2, Value.int p3]) (rest := []) (c_X6_init C.2.2.2.2.2.2.2.2.2 G.2.1 a0 p1 p2 p3 M) cy_X6_init lk_RX2_1 im_X6_init rfl (by decide) (by decide) (by decide) (by decide) rfl rfl (Nat.le_of_ble_eq_true rfl) (k_dg dt_X2_init_0 4 4 (.invokespecial 1) 3 rfl) (fun r1 M2 => ?_)
  show Sm Z G _ _ _ _ [(0, k_ra Z a0), (1, Value.int p1), (2, Value.int p2), (3, Value.int p3)] [] _ _
  exact x_vret C (by decide) (by decide) (k_dg dt_X2_init_0 5 7 (.return_) 1 rfl)
theorem c_X2_init {Z : k_Z} (hg : k_Gd Z) (l : Launch) (a0 : Nat) (p1 : Int32) (p2 : Int32) (p3 : Int32) (M : k_M) : Con true Z l yX2_init cX2_init 4 none 2 0 0 emV [k_ra Z a0, Value.int p1, Value.int p2, Value.int p3] M (f_X2_init a0 p1 p2 p3 M) := k_con hg (by decide) (Nat.le_of_ble_eq_true rfl) (fun G hl C => m_X2_init_0 C p1 p2 p3 M)
theorem dt_X5_init_0 : k_dec cX5_init [(0, .aload_n 0, 1), (1, .iload_n 1, 1), (2, .iload_n 2, 1), (3, .iload_n 3, 1), (4, .invokespecial 1, 3), (7, .return_, 1)] = true := by decide +kernel
def f_X5_init (a0 : Nat) (p1 : Int32) (p2 : Int32) (p3 : Int32) (M : k_M) : Option (Unit × k_M) := bd (f_X6_init a0 p1 p2 p3 M) (fun r1 M2 => some ((), M2))
theorem m_X5_init_0 {Z : k_Z} {G : k_G} {a0 : Nat} (C : k_C Z G RX5 cX5_init (true, 4, 2, 0, 0) none "<init>") (p1 : Int32) (p2 : Int32) (p3 : Int32) (M : k_M) : Sm Z G emV (true, 4, 2, 0, 0) (0, 0) 0 [(0, k_ra Z a0), (1, Value.int p1), (2, Value.int p2), (3, Value.int p3)] [] M (f_X5_init a0 p1 p2 p3 M) := by
  show Sm Z G emV _ _ _ _ _ _ (bd (f_X6_init a0 p1 p2 p3 M) (fun r1 M2 => some ((), M2)))
  refine x_aload_n C (k_dg dt_X5_init_0 0 0 (.aload_n 0) 1 rfl) 0 rfl ?_
  refine x_iload_n C (k_dg dt_X5_init_0 1 1 (.iload_n 1) 1 rfl) 1 rfl ?_
  refine x_iload_n C (k_dg dt_X5_init_0 2 2 (.iload_n 2) 1 rfl) 2 rfl ?_
  refine x_iload_n C (k_dg dt_X5_init_0 3 3 (.iload_n 3) 1 rfl) 3 rfl ?_
  refine x_callI C (b := k_h Z + a0) (vs := [Value.int p1, Value.int p2, Value.int p3]) (rest := []) (c_X6_init C.2.2.2.2.2.2.2.2.2 G.2.1 a0 p1 p2 p3 M) cy_X6_init lk_RX5_1 im_X6_init rfl (by decide) (by decide) (by decide) (by decide) rfl rfl (Nat.le_of_ble_eq_true rfl) (k_dg dt_X5_init_0 4 4 (.invokespecial 1) 3 rfl) (fun r1 M2 => ?_)
  show Sm Z G _ _ _ _ [(0, k_ra Z a0), (1, Value.int p1), (2, Value.int p2), (3, Value.int p3)] [] _ _
  exact x_vret C (by decide) (by decide) (k_dg dt_X5_init_0 5 7 (.return_) 1 rfl)
theorem c_X5_init {Z : k_Z} (hg : k_Gd Z) (l : Launch) (a0 : Nat) (p1 : Int32) (p2 : Int32) (p3 : Int32) (M : k_M) : Con true Z l yX5_init cX5_init 4 none 2 0 0 emV [k_ra Z a0, Value.int p1, Value.int p2, Value.int p3] M (f_X5_init a0 p1 p2 p3 M) := k_con hg (by decide) (Nat.le_of_ble_eq_true rfl) (fun G hl C => m_X5_init_0 C p1 p2 p3 M)
theorem dt_X4_init_0 : k_dec cX4_init [(0, .aload_n 0, 1), (1, .iload_n 1, 1), (2, .iload_n 2, 1), (3, .iload_n 3, 1), (4, .invokespecial 1, 3), (7, .return_, 1)] = true := by decide +kernel
def f_X4_init (a0 : Nat) (p1 : Int32) (p2 : Int32) (p3 : Int32) (M : k_M) : Option (Unit × k_M) := bd (f_X6_init a0 p1 p2 p3 M) (fun r1 M2 => some ((), M2))
theorem m_X4_init_0 {Z : k_Z} {G : k_G} {a0 : Nat} (C : k_C Z G RX4 cX4_init (true, 4, 2, 0, 0) none "<init>") (p1 : Int32) (p2 : Int32) (p3 : Int32) (M : k_M) : Sm Z G emV (true, 4, 2, 0, 0) (0, 0) 0 [(0, k_ra Z a0), (1, Value.int p1), (2, Value.int p2), (3, Value.int p3)] [] M (f_X4_init a0 p1 p2 p3 M) := by
  show Sm Z G emV _ _ _ _ _ _ (bd (f_X6_init a0 p1 p2 p3 M) (fun r1 M2 => some ((), M2)))
  refine x_aload_n C (k_dg dt_X4_init_0 0 0 (.aload_n 0) 1 rfl) 0 rfl ?_
  refine x_iload_n C (k_dg dt_X4_init_0 1 1 (.iload_n 1) 1 rfl) 1 rfl ?_
  refine x_iload_n C (k_dg dt_X4_init_0 2 2 (.iload_n 2) 1 rfl) 2 rfl ?_
  refine x_iload_n C (k_dg dt_X4_init_0 3 3 (.iload_n 3) 1 rfl) 3 rfl ?_
  refine x_callI C (b := k_h Z + a0) (vs := [Value.int p1, Value.int p2, Value.int p3]) (rest := []) (c_X6_init C.2.2.2.2.2.2.2.2.2 G.2.1 a0 p1 p2 p3 M) cy_X6_init lk_RX4_1 im_X6_init rfl (by decide) (by decide) (by decide) (by decide) rfl rfl (Nat.le_of_ble_eq_true rfl) (k_dg dt_X4_init_0 4 4 (.invokespecial 1) 3 rfl) (fun r1 M2 => ?_)
  show Sm Z G _ _ _ _ [(0, k_ra Z a0), (1, Value.int p1), (2, Value.int p2), (3, Value.int p3)] [] _ _
  exact x_vret C (by decide) (by decide) (k_dg dt_X4_init_0 5 7 (.return_) 1 rfl)
theorem c_X4_init {Z : k_Z} (hg : k_Gd Z) (l : Launch) (a0 : Nat) (p1 : Int32) (p2 : Int32) (p3 : Int32) (M : k_M) : Con true Z l yX4_init cX4_init 4 none 2 0 0 emV [k_ra Z a0, Value.int p1, Value.int p2, Value.int p3] M (f_X4_init a0 p1 p2 p3 M) := k_con hg (by decide) (Nat.le_of_ble_eq_true rfl) (fun G hl C => m_X4_init_0 C p1 p2 p3 M)
theorem dt_X1_init_0 : k_dec cX1_init [(0, .aload_n 0, 1), (1, .iload_n 1, 1), (2, .iload_n 2, 1), (3, .iload_n 3, 1), (4, .invokespecial 3, 3), (7, .return_, 1)] = true := by decide +kernel
def f_X1_init (a0 : Nat) (p1 : Int32) (p2 : Int32) (p3 : Int32) (M : k_M) : Option (Unit × k_M) := bd (f_X5_init a0 p1 p2 p3 M) (fun r1 M2 => some ((), M2))
theorem m_X1_init_0 {Z : k_Z} {G : k_G} {a0 : Nat} (C : k_C Z G RX1 cX1_init (true, 4, 3, 0, 0) none "<init>") (p1 : Int32) (p2 : Int32) (p3 : Int32) (M : k_M) : Sm Z G emV (true, 4, 3, 0, 0) (0, 0) 0 [(0, k_ra Z a0), (1, Value.int p1), (2, Value.int p2), (3, Value.int p3)] [] M (f_X1_init a0 p1 p2 p3 M) := by
  show Sm Z G emV _ _ _ _ _ _ (bd (f_X5_init a0 p1 p2 p3 M) (fun r1 M2 => some ((), M2)))
  refine x_aload_n C (k_dg dt_X1_init_0 0 0 (.aload_n 0) 1 rfl) 0 rfl ?_
  refine x_iload_n C (k_dg dt_X1_init_0 1 1 (.iload_n 1) 1 rfl) 1 rfl ?_
  refine x_iload_n C (k_dg dt_X1_init_0 2 2 (.iload_n 2) 1 rfl) 2 rfl ?_
  refine x_iload_n C (k_dg dt_X1_init_0 3 3 (.iload_n 3) 1 rfl) 3 rfl ?_
  refine x_callI C (b := k_h Z + a0) (vs := [Value.int p1, Value.int p2, Value.int p3]) (rest := []) (c_X5_init C.2.2.2.2.2.2.2.2.2 G.2.1 a0 p1 p2 p3 M) cy_X5_init lk_RX1_3 im_X5_init rfl (by decide) (by decide) (by decide) (by decide) rfl rfl (Nat.le_of_ble_eq_true rfl) (k_dg dt_X1_init_0 4 4 (.invokespecial 3) 3 rfl) (fun r1 M2 => ?_)
  show Sm Z G _ _ _ _ [(0, k_ra Z a0), (1, Value.int p1), (2, Value.int p2), (3, Value.int p3)] [] _ _
  exact x_vret C (by decide) (by decide) (k_dg dt_X1_init_0 5 7 (.return_) 1 rfl)
theorem c_X1_init {Z : k_Z} (hg : k_Gd Z) (l : Launch) (a0 : Nat) (p1 : Int32) (p2 : Int32) (p3 : Int32) (M : k_M) : Con true Z l yX1_init cX1_init 4 none 3 0 0 emV [k_ra Z a0, Value.int p1, Value.int p2, Value.int p3] M (f_X1_init a0 p1 p2 p3 M) := k_con hg (by decide) (Nat.le_of_ble_eq_true rfl) (fun G hl C => m_X1_init_0 C p1 p2 p3 M)
theorem dt_X8_init_0 : k_dec cX8_init [(0, .aload_n 0, 1), (1, .iload_n 1, 1), (2, .iload_n 2, 1), (3, .iload_n 3, 1), (4, .invokespecial 1, 3), (7, .return_, 1)] = true := by decide +kernel
def f_X8_init (a0 : Nat) (p1 : Int32) (p2 : Int32) (p3 : Int32) (M : k_M) : Option (Unit × k_M) := bd (f_X4_init a0 p1 p2 p3 M) (fun r1 M2 => some ((), M2))
theorem m_X8_init_0 {Z : k_Z} {G : k_G} {a0 : Nat} (C : k_C Z G RX8 cX8_init (true, 4, 3, 0, 0) none "<init>") (p1 : Int32) (p2 : Int32) (p3 : Int32) (M : k_M) : Sm Z G emV (true, 4, 3, 0, 0) (0, 0) 0 [(0, k_ra Z a0), (1, Value.int p1), (2, Value.int p2), (3, Value.int p3)] [] M (f_X8_init a0 p1 p2 p3 M) := by
  show Sm Z G emV _ _ _ _ _ _ (bd (f_X4_init a0 p1 p2 p3 M) (fun r1 M2 => some ((), M2)))
  refine x_aload_n C (k_dg dt_X8_init_0 0 0 (.aload_n 0) 1 rfl) 0 rfl ?_
  refine x_iload_n C (k_dg dt_X8_init_0 1 1 (.iload_n 1) 1 rfl) 1 rfl ?_
  refine x_iload_n C (k_dg dt_X8_init_0 2 2 (.iload_n 2) 1 rfl) 2 rfl ?_
  refine x_iload_n C (k_dg dt_X8_init_0 3 3 (.iload_n 3) 1 rfl) 3 rfl ?_
  refine x_callI C (b := k_h Z + a0) (vs := [Value.int p1, Value.int p2, Value.int p3]) (rest := []) (c_X4_init C.2.2.2.2.2.2.2.2.2 G.2.1 a0 p1 p2 p3 M) cy_X4_init lk_RX8_1 im_X4_init rfl (by decide) (by decide) (by decide) (by decide) rfl rfl (Nat.le_of_ble_eq_true rfl) (k_dg dt_X8_init_0 4 4 (.invokespecial 1) 3 rfl) (fun r1 M2 => ?_)
  show Sm Z G _ _ _ _ [(0, k_ra Z a0), (1, Value.int p1), (2, Value.int p2), (3, Value.int p3)] [] _ _
  exact x_vret C (by decide) (by decide) (k_dg dt_X8_init_0 5 7 (.return_) 1 rfl)
theorem c_X8_init {Z : k_Z} (hg : k_Gd Z) (l : Launch) (a0 : Nat) (p1 : Int32) (p2 : Int32) (p3 : Int32) (M : k_M) : Con true Z l yX8_init cX8_init 4 none 3 0 0 emV [k_ra Z a0, Value.int p1, Value.int p2, Value.int p3] M (f_X8_init a0 p1 p2 p3 M) := k_con hg (by decide) (Nat.le_of_ble_eq_true rfl) (fun G hl C => m_X8_init_0 C p1 p2 p3 M)
theorem dt_X6_rolls_0 : k_dec cX6_rolls [(0, .aload_n 2, 1), (1, .getfield 29, 3), (4, .ifCond .ne 33, 3), (7, .aload_n 2, 1), (8, .getfield 35, 3), (11, .bipush 30, 2), (13, .if_icmp .ge 24, 3), (16, .aload_n 2, 1), (17, .getfield 38, 3), (20, .aload_n 2, 1), (21, .getfield 35, 3), (24, .bipush 10, 2), (26, .iastore, 1), (27, .aload_n 2, 1), (28, .dup, 1), (29, .getfield 35, 3), (32, .iconst 1, 1), (33, .iadd, 1), (34, .putfield 35, 3), (37, .iload_n 1, 1), (38, .aload_n 0, 1), (39, .getfield 13, 3), (42, .iadd, 1), (43, .ireturn, 1)] = true := by decide +kernel
def f_X6_rolls_37 (a0 : Nat) (l0 : Nat) (l1 : Int32) (M : k_M) : Option (Int32 × k_M) := gRl M l0 1 (fun v1 => some (l1 + v1, M))
theorem m_X6_rolls_37 {Z : k_Z} {G : k_G} {a0 : Nat} (C : k_C Z G RX6 cX6_rolls (true, 3, 1, 0, 0) (some .int) "rolls") (l0 : Nat) (l1 : Int32) (M : k_M) : Sm Z G emI (true, 3, 1, 0, 0) (0, 0) 37 [(0, k_ra Z l0), (1, Value.int l1)] [] M (f_X6_rolls_37 a0 l0 l1 M) := by
  show Sm Z G emI _ _ _ _ _ _ (gRl M l0 1 (fun v1 => some (l1 + v1, M)))
  refine x_iload_n C (k_dg dt_X6_rolls_0 19 37 (.iload_n 1) 1 rfl) 1 rfl ?_
  refine x_aload_n C (k_dg dt_X6_rolls_0 20 38 (.aload_n 0) 1 rfl) 0 rfl ?_
  refine x_getRl C (a := l0) (j := 1) (by decide) fl_RX6_13 (k_dg dt_X6_rolls_0 21 39 (.getfield 13) 3 rfl) (fun v1 => ?_)
  refine x_iadd C (k_dg dt_X6_rolls_0 22 42 (.iadd) 1 rfl) ?_
  exact x_iret C (by decide) (by decide) (k_dg dt_X6_rolls_0 23 43 (.ireturn) 1 rfl)
def f_X6_rolls (a0 : Nat) (p1 : Int32) (M : k_M) : Option (Int32 × k_M) := if (M.1 74 2) = 0 then if 30 ≤ (M.1 74 1) then f_X6_rolls_37 a0 a0 p1 M else wrI M 75 30 (M.1 74 1) 10 (fun M1 => bN (sI M1 74 1 ((M1.1 74 1) + 1)) (fun M2 => f_X6_rolls_37 a0 a0 p1 M2)) else f_X6_rolls_37 a0 a0 p1 M
theorem m_X6_rolls_0 {Z : k_Z} {G : k_G} {a0 : Nat} (C : k_C Z G RX6 cX6_rolls (true, 3, 1, 0, 0) (some .int) "rolls") (p1 : Int32) (M : k_M) : Sm Z G emI (true, 3, 1, 0, 0) (0, 0) 0 [(0, k_ra Z a0), (1, Value.int p1), (2, k_ra Z 74)] [] M (f_X6_rolls a0 p1 M) := by
  show Sm Z G emI _ _ _ _ _ _ (if (M.1 74 2) = 0 then if 30 ≤ (M.1 74 1) then f_X6_rolls_37 a0 a0 p1 M else wrI M 75 30 (M.1 74 1) 10 (fun M1 => bN (sI M1 74 1 ((M1.1 74 1) + 1)) (fun M2 => f_X6_rolls_37 a0 a0 p1 M2)) else f_X6_rolls_37 a0 a0 p1 M)
  refine x_aload_n C (k_dg dt_X6_rolls_0 0 0 (.aload_n 2) 1 rfl) 2 rfl ?_
  refine x_getI C (a := 74) (j := 2) rfl rfl (by decide) fl_RX6_29 rfl (k_dg dt_X6_rolls_0 1 1 (.getfield 29) 3 rfl) ?_
  refine x_if_ne C (tgt := 37) (k_dg dt_X6_rolls_0 2 4 (.ifCond .ne 33) 3 rfl) (by decide) (fun _ => ?_) (fun _ => ?_)
  · refine x_aload_n C (k_dg dt_X6_rolls_0 3 7 (.aload_n 2) 1 rfl) 2 rfl ?_
    refine x_getI C (a := 74) (j := 1) rfl rfl (by decide) fl_RX6_35 rfl (k_dg dt_X6_rolls_0 4 8 (.getfield 35) 3 rfl) ?_
    refine x_bipush C (v := 30) (k_dg dt_X6_rolls_0 5 11 (.bipush 30) 2 rfl) (by decide) ?_
    refine x_icmp_ge C (tgt := 37) (k_dg dt_X6_rolls_0 6 13 (.if_icmp .ge 24) 3 rfl) (by decide) (fun _ => ?_) (fun _ => ?_)
    · refine x_lv [0, 1] rfl ?_
      exact m_X6_rolls_37 C a0 p1 M
    · refine x_aload_n C (k_dg dt_X6_rolls_0 7 16 (.aload_n 2) 1 rfl) 2 rfl ?_
      refine x_getR C (a := 74) (j := 0) 75 rfl rfl (by decide) fl_RX6_38 rfl rfl rfl (k_dg dt_X6_rolls_0 8 17 (.getfield 38) 3 rfl) ?_
      refine x_aload_n C (k_dg dt_X6_rolls_0 9 20 (.aload_n 2) 1 rfl) 2 rfl ?_
      refine x_getI C (a := 74) (j := 1) rfl rfl (by decide) fl_RX6_35 rfl (k_dg dt_X6_rolls_0 10 21 (.getfield 35) 3 rfl) ?_
      refine x_bipush C (v := 10) (k_dg dt_X6_rolls_0 11 24 (.bipush 10) 2 rfl) (by decide) ?_
      refine x_iast C (a := 75) (n := 30) rfl rfl (k_dg dt_X6_rolls_0 12 26 (.iastore) 1 rfl) (fun M1 => ?_)
      refine x_aload_n C (k_dg dt_X6_rolls_0 13 27 (.aload_n 2) 1 rfl) 2 rfl ?_
      refine x_dup C (k_dg dt_X6_rolls_0 14 28 (.dup) 1 rfl) rfl ?_
      refine x_getI C (a := 74) (j := 1) rfl rfl (by decide) fl_RX6_35 rfl (k_dg dt_X6_rolls_0 15 29 (.getfield 35) 3 rfl) ?_
      refine x_iconst C (v := 1) (k_dg dt_X6_rolls_0 16 32 (.iconst 1) 1 rfl) (by decide) ?_
      refine x_iadd C (k_dg dt_X6_rolls_0 17 33 (.iadd) 1 rfl) ?_
      refine x_putI C (a := 74) (j := 1) rfl rfl (by decide) fl_RX6_35 rfl pt_7_1 tb_7 rfl rfl (k_dg dt_X6_rolls_0 18 34 (.putfield 35) 3 rfl) (fun M2 => ?_)
      refine x_lv [0, 1] rfl ?_
      exact m_X6_rolls_37 C a0 p1 M2
  · refine x_lv [0, 1] rfl ?_
    exact m_X6_rolls_37 C a0 p1 M
theorem c_X6_rolls {Z : k_Z} (hg : k_Gd Z) (l : Launch) (a0 : Nat) (p1 : Int32) (M : k_M) : Con true Z l yX6_rolls cX6_rolls 3 (some .int) 1 0 0 emI [k_ra Z a0, Value.int p1, k_ra Z 74] M (f_X6_rolls a0 p1 M) := k_con hg (by decide) (Nat.le_of_ble_eq_true rfl) (fun G hl C => m_X6_rolls_0 C p1 M)
theorem dt_X2_rolls_0 : k_dec cX2_rolls [(0, .aload_n 2, 1), (1, .bipush 20, 2), (3, .invokevirtual 7, 3), (6, .iconst 0, 1), (7, .aload_n 0, 1), (8, .iload_n 1, 1), (9, .aload_n 2, 1), (10, .invokespecial 13, 3), (13, .isub, 1), (14, .ireturn, 1)] = true := by decide +kernel
def f_X2_rolls (a0 : Nat) (p1 : Int32) (M : k_M) : Option (Int32 × k_M) := bd (f_X9_begin 20 M) (fun r1 M2 => isRl M2 a0 (bd (f_X6_rolls a0 p1 M2) (fun r3 M4 => some (0 - r3, M4))))
theorem m_X2_rolls_0 {Z : k_Z} {G : k_G} {a0 : Nat} (C : k_C Z G RX2 cX2_rolls (true, 3, 2, 0, 0) (some .int) "rolls") (p1 : Int32) (M : k_M) : Sm Z G emI (true, 3, 2, 0, 0) (0, 0) 0 [(0, k_ra Z a0), (1, Value.int p1), (2, k_ra Z 74)] [] M (f_X2_rolls a0 p1 M) := by
  show Sm Z G emI _ _ _ _ _ _ (bd (f_X9_begin 20 M) (fun r1 M2 => isRl M2 a0 (bd (f_X6_rolls a0 p1 M2) (fun r3 M4 => some (0 - r3, M4)))))
  refine x_aload_n C (k_dg dt_X2_rolls_0 0 0 (.aload_n 2) 1 rfl) 2 rfl ?_
  refine x_bipush C (v := 20) (k_dg dt_X2_rolls_0 1 1 (.bipush 20) 2 rfl) (by decide) ?_
  refine x_callV C (a := 74) (kd := 7) (vs := [Value.int 20]) (rest := []) rfl rfl (by decide) (fun r hr => by cases hr; rfl) (c_X9_begin C.2.2.2.2.2.2.2.2.2 G.2.1 20 M) cy_X9_begin lk_RX2_7 im_X9_begin se_X9_begin (by decide) (by decide) (by decide) (by decide) rfl rfl (Nat.le_of_ble_eq_true rfl) (k_dg dt_X2_rolls_0 2 3 (.invokevirtual 7) 3 rfl) (fun r1 M2 => ?_)
  show Sm Z G _ _ _ _ [(0, k_ra Z a0), (1, Value.int p1), (2, k_ra Z 74)] [] _ _
  refine x_iconst C (v := 0) (k_dg dt_X2_rolls_0 3 6 (.iconst 0) 1 rfl) (by decide) ?_
  refine x_aload_n C (k_dg dt_X2_rolls_0 4 7 (.aload_n 0) 1 rfl) 0 rfl ?_
  refine x_iload_n C (k_dg dt_X2_rolls_0 5 8 (.iload_n 1) 1 rfl) 1 rfl ?_
  refine x_aload_n C (k_dg dt_X2_rolls_0 6 9 (.aload_n 2) 1 rfl) 2 rfl ?_
  refine x_isRl (a := a0) (fun ha hlt => ?_)
  refine x_callSU C (x := ⟨"WheelCity$Rule", "rolls", "(ILWheelCity$Trace;)I"⟩) (a := a0) (vs := [Value.int p1, k_ra Z 74]) (rest := [Value.int 0]) ha hlt (c_X6_rolls C.2.2.2.2.2.2.2.2.2 G.2.1 a0 p1 M2) cy_X6_rolls ⟨rfl, rfl⟩ su_RX2_13.1 su_RX2_13.2.1 su_RX2_13.2.2.1 su_RX2_13.2.2.2 (by decide) im_X6_rolls (by decide) (by decide) (by decide) (by decide) rfl rfl (Nat.le_of_ble_eq_true rfl) (k_dg dt_X2_rolls_0 7 10 (.invokespecial 13) 3 rfl) (fun r3 M4 => ?_)
  show Sm Z G _ _ _ _ [(0, k_ra Z a0), (1, Value.int p1), (2, k_ra Z 74)] [Value.int r3, Value.int 0] _ _
  refine x_isub C (k_dg dt_X2_rolls_0 8 13 (.isub) 1 rfl) ?_
  exact x_iret C (by decide) (by decide) (k_dg dt_X2_rolls_0 9 14 (.ireturn) 1 rfl)
theorem c_X2_rolls {Z : k_Z} (hg : k_Gd Z) (l : Launch) (a0 : Nat) (p1 : Int32) (M : k_M) : Con true Z l yX2_rolls cX2_rolls 3 (some .int) 2 0 0 emI [k_ra Z a0, Value.int p1, k_ra Z 74] M (f_X2_rolls a0 p1 M) := k_con hg (by decide) (Nat.le_of_ble_eq_true rfl) (fun G hl C => m_X2_rolls_0 C p1 M)
theorem dt_X1_rolls_0 : k_dec cX1_rolls [(0, .aload_n 2, 1), (1, .bipush 50, 2), (3, .invokevirtual 25, 3), (6, .aload_n 0, 1), (7, .iload_n 1, 1), (8, .aload_n 2, 1), (9, .invokespecial 31, 3), (12, .iconst 3, 1), (13, .imul, 1), (14, .ireturn, 1)] = true := by decide +kernel
def f_X1_rolls (a0 : Nat) (p1 : Int32) (M : k_M) : Option (Int32 × k_M) := bd (f_X9_begin 50 M) (fun r1 M2 => isRl M2 a0 (bd (f_X6_rolls a0 p1 M2) (fun r3 M4 => some (r3 * 3, M4))))
theorem m_X1_rolls_0 {Z : k_Z} {G : k_G} {a0 : Nat} (C : k_C Z G RX1 cX1_rolls (true, 3, 2, 0, 0) (some .int) "rolls") (p1 : Int32) (M : k_M) : Sm Z G emI (true, 3, 2, 0, 0) (0, 0) 0 [(0, k_ra Z a0), (1, Value.int p1), (2, k_ra Z 74)] [] M (f_X1_rolls a0 p1 M) := by
  show Sm Z G emI _ _ _ _ _ _ (bd (f_X9_begin 50 M) (fun r1 M2 => isRl M2 a0 (bd (f_X6_rolls a0 p1 M2) (fun r3 M4 => some (r3 * 3, M4)))))
  refine x_aload_n C (k_dg dt_X1_rolls_0 0 0 (.aload_n 2) 1 rfl) 2 rfl ?_
  refine x_bipush C (v := 50) (k_dg dt_X1_rolls_0 1 1 (.bipush 50) 2 rfl) (by decide) ?_
  refine x_callV C (a := 74) (kd := 7) (vs := [Value.int 50]) (rest := []) rfl rfl (by decide) (fun r hr => by cases hr; rfl) (c_X9_begin C.2.2.2.2.2.2.2.2.2 G.2.1 50 M) cy_X9_begin lk_RX1_25 im_X9_begin se_X9_begin (by decide) (by decide) (by decide) (by decide) rfl rfl (Nat.le_of_ble_eq_true rfl) (k_dg dt_X1_rolls_0 2 3 (.invokevirtual 25) 3 rfl) (fun r1 M2 => ?_)
  show Sm Z G _ _ _ _ [(0, k_ra Z a0), (1, Value.int p1), (2, k_ra Z 74)] [] _ _
  refine x_aload_n C (k_dg dt_X1_rolls_0 3 6 (.aload_n 0) 1 rfl) 0 rfl ?_
  refine x_iload_n C (k_dg dt_X1_rolls_0 4 7 (.iload_n 1) 1 rfl) 1 rfl ?_
  refine x_aload_n C (k_dg dt_X1_rolls_0 5 8 (.aload_n 2) 1 rfl) 2 rfl ?_
  refine x_isRl (a := a0) (fun ha hlt => ?_)
  refine x_callSU C (x := ⟨"WheelCity$Near", "rolls", "(ILWheelCity$Trace;)I"⟩) (a := a0) (vs := [Value.int p1, k_ra Z 74]) (rest := []) ha hlt (c_X6_rolls C.2.2.2.2.2.2.2.2.2 G.2.1 a0 p1 M2) cy_X6_rolls ⟨rfl, rfl⟩ su_RX1_31.1 su_RX1_31.2.1 su_RX1_31.2.2.1 su_RX1_31.2.2.2 (by decide) im_X6_rolls (by decide) (by decide) (by decide) (by decide) rfl rfl (Nat.le_of_ble_eq_true rfl) (k_dg dt_X1_rolls_0 6 9 (.invokespecial 31) 3 rfl) (fun r3 M4 => ?_)
  show Sm Z G _ _ _ _ [(0, k_ra Z a0), (1, Value.int p1), (2, k_ra Z 74)] [Value.int r3] _ _
  refine x_iconst C (v := 3) (k_dg dt_X1_rolls_0 7 12 (.iconst 3) 1 rfl) (by decide) ?_
  refine x_imul C (k_dg dt_X1_rolls_0 8 13 (.imul) 1 rfl) ?_
  exact x_iret C (by decide) (by decide) (k_dg dt_X1_rolls_0 9 14 (.ireturn) 1 rfl)
theorem c_X1_rolls {Z : k_Z} (hg : k_Gd Z) (l : Launch) (a0 : Nat) (p1 : Int32) (M : k_M) : Con true Z l yX1_rolls cX1_rolls 3 (some .int) 2 0 0 emI [k_ra Z a0, Value.int p1, k_ra Z 74] M (f_X1_rolls a0 p1 M) := k_con hg (by decide) (Nat.le_of_ble_eq_true rfl) (fun G hl C => m_X1_rolls_0 C p1 M)
def vd_Rule_rolls (a : Nat) (p1 : Int32) (M : k_M) : Option (Int32 × k_M) := isRl M a (if k_tag (M.1 a 3) = 1 then f_X2_rolls a p1 M else if k_tag (M.1 a 3) = 4 then f_X6_rolls a p1 M else if k_tag (M.1 a 3) = 3 then f_X6_rolls a p1 M else if k_tag (M.1 a 3) = 0 then f_X1_rolls a p1 M else f_X6_rolls a p1 M)
theorem x_vd_Rule_rolls {Z : k_Z} {G : k_G} {ρ : Type} {em : ρ → Option Value} {F2 : Nat × Nat × Nat × Nat} {K : Nat × Nat} {pc : Nat} {lv : List (Nat × Value)} {st rest : List Value} {M : k_M} {own : String} {cc : ByteArray} {ret : Option FieldType} {nm : String} (C : k_C Z G own cc (true, F2) ret nm) {idx a : Nat} {p1 : Int32} {k : Int32 → k_M → Option (ρ × k_M)} (hl : Cond.methodLink own idx (⟨"WheelCity$Rule", "rolls", "(ILWheelCity$Trace;)I"⟩ : MethodName) ∈ lw_tbl) (hd : 2 + 1 ≤ F2.2.1) (h1 : K.1 ≤ F2.2.2.1) (h2 : K.2 ≤ F2.2.2.2) (hs : st = [Value.int p1, k_ra Z 74].reverse ++ k_ra Z a :: rest) (hr : (rest.map fun v => v.category).sum ≤ 8) (hdg : decode cc pc = .ok (.invokevirtual idx, 3)) (kk : ∀ (r : Int32) (M1 : k_M), Sm Z G em (true, F2) K (pc + 3) lv (.int r :: rest) M1 (k r M1)) : Sm Z G em (true, F2) K pc lv st M (bd (vd_Rule_rolls a p1 M) k) := by
  unfold vd_Rule_rolls isRl
  by_cases hc : 105 ≤ a ∧ a < M.2.2.2
  · rw [if_pos hc]
    by_cases ht1 : k_tag (M.1 a 3) = 1
    · rw [if_pos ht1]
      exact x_callD C (r := (RX2, TX2, 3)) (x := (⟨"WheelCity$Rule", "rolls", "(ILWheelCity$Trace;)I"⟩ : MethodName)) (y := yX2_rolls) (owner := "WheelCity$Rule") (vs := [Value.int p1, k_ra Z 74]) (rest := rest) hc.1 hc.2 (by rw [ht1]; rfl) (c_X2_rolls C.2.2.2.2.2.2.2.2.2 G.2.1 a p1 M) cy_X2_rolls hl (List.mem_of_getElem? (i := 991) (by decide +kernel)) (k_decl C (List.mem_of_getElem? (i := 1001) (by decide +kernel))) ⟨by decide +kernel, by decide +kernel⟩ rfl (List.mem_of_getElem? (i := 1002) (by decide +kernel)) im_X2_rolls (Nat.le_trans (by decide) hd) (by decide) h1 h2 rfl hs hr hdg (fun r M1 => kk r M1)
    · rw [if_neg ht1]
      by_cases ht4 : k_tag (M.1 a 3) = 4
      · rw [if_pos ht4]
        exact x_callD C (r := (RX5, TX5, 3)) (x := (⟨"WheelCity$Rule", "rolls", "(ILWheelCity$Trace;)I"⟩ : MethodName)) (y := yX6_rolls) (owner := "WheelCity$Rule") (vs := [Value.int p1, k_ra Z 74]) (rest := rest) hc.1 hc.2 (by rw [ht4]; rfl) (c_X6_rolls C.2.2.2.2.2.2.2.2.2 G.2.1 a p1 M) cy_X6_rolls hl (List.mem_of_getElem? (i := 991) (by decide +kernel)) (k_decl C (List.mem_of_getElem? (i := 1001) (by decide +kernel))) ⟨by decide +kernel, by decide +kernel⟩ rfl (List.mem_of_getElem? (i := 1008) (by decide +kernel)) im_X6_rolls (Nat.le_trans (by decide) hd) (by decide) h1 h2 rfl hs hr hdg (fun r M1 => kk r M1)
      · rw [if_neg ht4]
        by_cases ht3 : k_tag (M.1 a 3) = 3
        · rw [if_pos ht3]
          exact x_callD C (r := (RX4, TX4, 3)) (x := (⟨"WheelCity$Rule", "rolls", "(ILWheelCity$Trace;)I"⟩ : MethodName)) (y := yX6_rolls) (owner := "WheelCity$Rule") (vs := [Value.int p1, k_ra Z 74]) (rest := rest) hc.1 hc.2 (by rw [ht3]; rfl) (c_X6_rolls C.2.2.2.2.2.2.2.2.2 G.2.1 a p1 M) cy_X6_rolls hl (List.mem_of_getElem? (i := 991) (by decide +kernel)) (k_decl C (List.mem_of_getElem? (i := 1001) (by decide +kernel))) ⟨by decide +kernel, by decide +kernel⟩ rfl (List.mem_of_getElem? (i := 1007) (by decide +kernel)) im_X6_rolls (Nat.le_trans (by decide) hd) (by decide) h1 h2 rfl hs hr hdg (fun r M1 => kk r M1)
        · rw [if_neg ht3]
          by_cases ht0 : k_tag (M.1 a 3) = 0
          · rw [if_pos ht0]
            exact x_callD C (r := (RX1, TX1, 3)) (x := (⟨"WheelCity$Rule", "rolls", "(ILWheelCity$Trace;)I"⟩ : MethodName)) (y := yX1_rolls) (owner := "WheelCity$Rule") (vs := [Value.int p1, k_ra Z 74]) (rest := rest) hc.1 hc.2 (by rw [ht0]; rfl) (c_X1_rolls C.2.2.2.2.2.2.2.2.2 G.2.1 a p1 M) cy_X1_rolls hl (List.mem_of_getElem? (i := 991) (by decide +kernel)) (k_decl C (List.mem_of_getElem? (i := 1001) (by decide +kernel))) ⟨by decide +kernel, by decide +kernel⟩ rfl (List.mem_of_getElem? (i := 992) (by decide +kernel)) im_X1_rolls (Nat.le_trans (by decide) hd) (by decide) h1 h2 rfl hs hr hdg (fun r M1 => kk r M1)
          · rw [if_neg ht0]
            exact x_callD C (r := (RX8, TX8, 3)) (x := (⟨"WheelCity$Rule", "rolls", "(ILWheelCity$Trace;)I"⟩ : MethodName)) (y := yX6_rolls) (owner := "WheelCity$Rule") (vs := [Value.int p1, k_ra Z 74]) (rest := rest) hc.1 hc.2 (by rcases k_tags (M.1 a 3) with h | h | h | h | h; exact absurd h ht1; exact absurd h ht4; exact absurd h ht3; exact absurd h ht0; rw [h]; rfl) (c_X6_rolls C.2.2.2.2.2.2.2.2.2 G.2.1 a p1 M) cy_X6_rolls hl (List.mem_of_getElem? (i := 991) (by decide +kernel)) (k_decl C (List.mem_of_getElem? (i := 1001) (by decide +kernel))) ⟨by decide +kernel, by decide +kernel⟩ rfl (List.mem_of_getElem? (i := 1009) (by decide +kernel)) im_X6_rolls (Nat.le_trans (by decide) hd) (by decide) h1 h2 rfl hs hr hdg (fun r M1 => kk r M1)
  · rw [if_neg hc]
    exact x_none
def vd_Best_rolls (a : Nat) (p1 : Int32) (M : k_M) : Option (Int32 × k_M) := isRl M a (if k_tag (M.1 a 3) = 0 then f_X1_rolls a p1 M else none)
theorem x_vd_Best_rolls {Z : k_Z} {G : k_G} {ρ : Type} {em : ρ → Option Value} {F2 : Nat × Nat × Nat × Nat} {K : Nat × Nat} {pc : Nat} {lv : List (Nat × Value)} {st rest : List Value} {M : k_M} {own : String} {cc : ByteArray} {ret : Option FieldType} {nm : String} (C : k_C Z G own cc (true, F2) ret nm) {idx a : Nat} {p1 : Int32} {k : Int32 → k_M → Option (ρ × k_M)} (hl : Cond.methodLink own idx (⟨"WheelCity$Best", "rolls", "(ILWheelCity$Trace;)I"⟩ : MethodName) ∈ lw_tbl) (hd : 2 + 1 ≤ F2.2.1) (h1 : K.1 ≤ F2.2.2.1) (h2 : K.2 ≤ F2.2.2.2) (hs : st = [Value.int p1, k_ra Z 74].reverse ++ k_ra Z a :: rest) (hr : (rest.map fun v => v.category).sum ≤ 8) (hdg : decode cc pc = .ok (.invokevirtual idx, 3)) (kk : ∀ (r : Int32) (M1 : k_M), Sm Z G em (true, F2) K (pc + 3) lv (.int r :: rest) M1 (k r M1)) : Sm Z G em (true, F2) K pc lv st M (bd (vd_Best_rolls a p1 M) k) := by
  unfold vd_Best_rolls isRl
  by_cases hc : 105 ≤ a ∧ a < M.2.2.2
  · rw [if_pos hc]
    by_cases ht0 : k_tag (M.1 a 3) = 0
    · rw [if_pos ht0]
      exact x_callDV C (r := (RX1, TX1, 3)) (y := yX1_rolls) (vs := [Value.int p1, k_ra Z 74]) (rest := rest) hc.1 hc.2 (by rw [ht0]; rfl) rfl (c_X1_rolls C.2.2.2.2.2.2.2.2.2 G.2.1 a p1 M) cy_X1_rolls hl (List.mem_of_getElem? (i := 1672) (by decide +kernel)) im_X1_rolls (Nat.le_trans (by decide) hd) (by decide) h1 h2 rfl hs hr hdg (fun r M1 => kk r M1)
    · rw [if_neg ht0]
      exact x_none
  · rw [if_neg hc]
    exact x_none
theorem dt_X6_eats_0 : k_dec cX6_eats [(0, .aload_n 2, 1), (1, .bipush 11, 2), (3, .invokevirtual 42, 3), (6, .aload_n 0, 1), (7, .iload_n 1, 1), (8, .aload_n 2, 1), (9, .invokevirtual 46, 3), (12, .iconst 2, 1), (13, .imul, 1), (14, .ireturn, 1)] = true := by decide +kernel
def f_X6_eats (a0 : Nat) (p1 : Int32) (M : k_M) : Option (Int32 × k_M) := bd (f_X9_begin 11 M) (fun r1 M2 => bd (vd_Rule_rolls a0 p1 M2) (fun r3 M4 => some (r3 * 2, M4)))
theorem m_X6_eats_0 {Z : k_Z} {G : k_G} {a0 : Nat} (C : k_C Z G RX6 cX6_eats (true, 3, 3, 0, 0) (some .int) "eats") (p1 : Int32) (M : k_M) : Sm Z G emI (true, 3, 3, 0, 0) (0, 0) 0 [(0, k_ra Z a0), (1, Value.int p1), (2, k_ra Z 74)] [] M (f_X6_eats a0 p1 M) := by
  show Sm Z G emI _ _ _ _ _ _ (bd (f_X9_begin 11 M) (fun r1 M2 => bd (vd_Rule_rolls a0 p1 M2) (fun r3 M4 => some (r3 * 2, M4))))
  refine x_aload_n C (k_dg dt_X6_eats_0 0 0 (.aload_n 2) 1 rfl) 2 rfl ?_
  refine x_bipush C (v := 11) (k_dg dt_X6_eats_0 1 1 (.bipush 11) 2 rfl) (by decide) ?_
  refine x_callV C (a := 74) (kd := 7) (vs := [Value.int 11]) (rest := []) rfl rfl (by decide) (fun r hr => by cases hr; rfl) (c_X9_begin C.2.2.2.2.2.2.2.2.2 G.2.1 11 M) cy_X9_begin lk_RX6_42 im_X9_begin se_X9_begin (by decide) (by decide) (by decide) (by decide) rfl rfl (Nat.le_of_ble_eq_true rfl) (k_dg dt_X6_eats_0 2 3 (.invokevirtual 42) 3 rfl) (fun r1 M2 => ?_)
  show Sm Z G _ _ _ _ [(0, k_ra Z a0), (1, Value.int p1), (2, k_ra Z 74)] [] _ _
  refine x_aload_n C (k_dg dt_X6_eats_0 3 6 (.aload_n 0) 1 rfl) 0 rfl ?_
  refine x_iload_n C (k_dg dt_X6_eats_0 4 7 (.iload_n 1) 1 rfl) 1 rfl ?_
  refine x_aload_n C (k_dg dt_X6_eats_0 5 8 (.aload_n 2) 1 rfl) 2 rfl ?_
  refine x_vd_Rule_rolls C (a := a0) (rest := []) vl_RX6_46 (by decide) (by decide) (by decide) rfl (Nat.le_of_ble_eq_true rfl) (k_dg dt_X6_eats_0 6 9 (.invokevirtual 46) 3 rfl) (fun r3 M4 => ?_)
  show Sm Z G _ _ _ _ [(0, k_ra Z a0), (1, Value.int p1), (2, k_ra Z 74)] [Value.int r3] _ _
  refine x_iconst C (v := 2) (k_dg dt_X6_eats_0 7 12 (.iconst 2) 1 rfl) (by decide) ?_
  refine x_imul C (k_dg dt_X6_eats_0 8 13 (.imul) 1 rfl) ?_
  exact x_iret C (by decide) (by decide) (k_dg dt_X6_eats_0 9 14 (.ireturn) 1 rfl)
theorem c_X6_eats {Z : k_Z} (hg : k_Gd Z) (l : Launch) (a0 : Nat) (p1 : Int32) (M : k_M) : Con true Z l yX6_eats cX6_eats 3 (some .int) 3 0 0 emI [k_ra Z a0, Value.int p1, k_ra Z 74] M (f_X6_eats a0 p1 M) := k_con hg (by decide) (Nat.le_of_ble_eq_true rfl) (fun G hl C => m_X6_eats_0 C p1 M)
theorem dt_X5_eats_0 : k_dec cX5_eats [(0, .aload_n 2, 1), (1, .bipush 30, 2), (3, .invokevirtual 30, 3), (6, .aload_n 0, 1), (7, .iload_n 1, 1), (8, .aload_n 2, 1), (9, .invokespecial 36, 3), (12, .aload_n 0, 1), (13, .getfield 40, 3), (16, .isub, 1), (17, .ireturn, 1)] = true := by decide +kernel
def f_X5_eats (a0 : Nat) (p1 : Int32) (M : k_M) : Option (Int32 × k_M) := bd (f_X9_begin 30 M) (fun r1 M2 => isRl M2 a0 (bd (f_X6_eats a0 p1 M2) (fun r3 M4 => gRl M4 a0 2 (fun v5 => some (r3 - v5, M4)))))
theorem m_X5_eats_0 {Z : k_Z} {G : k_G} {a0 : Nat} (C : k_C Z G RX5 cX5_eats (true, 3, 4, 0, 0) (some .int) "eats") (p1 : Int32) (M : k_M) : Sm Z G emI (true, 3, 4, 0, 0) (0, 0) 0 [(0, k_ra Z a0), (1, Value.int p1), (2, k_ra Z 74)] [] M (f_X5_eats a0 p1 M) := by
  show Sm Z G emI _ _ _ _ _ _ (bd (f_X9_begin 30 M) (fun r1 M2 => isRl M2 a0 (bd (f_X6_eats a0 p1 M2) (fun r3 M4 => gRl M4 a0 2 (fun v5 => some (r3 - v5, M4))))))
  refine x_aload_n C (k_dg dt_X5_eats_0 0 0 (.aload_n 2) 1 rfl) 2 rfl ?_
  refine x_bipush C (v := 30) (k_dg dt_X5_eats_0 1 1 (.bipush 30) 2 rfl) (by decide) ?_
  refine x_callV C (a := 74) (kd := 7) (vs := [Value.int 30]) (rest := []) rfl rfl (by decide) (fun r hr => by cases hr; rfl) (c_X9_begin C.2.2.2.2.2.2.2.2.2 G.2.1 30 M) cy_X9_begin lk_RX5_30 im_X9_begin se_X9_begin (by decide) (by decide) (by decide) (by decide) rfl rfl (Nat.le_of_ble_eq_true rfl) (k_dg dt_X5_eats_0 2 3 (.invokevirtual 30) 3 rfl) (fun r1 M2 => ?_)
  show Sm Z G _ _ _ _ [(0, k_ra Z a0), (1, Value.int p1), (2, k_ra Z 74)] [] _ _
  refine x_aload_n C (k_dg dt_X5_eats_0 3 6 (.aload_n 0) 1 rfl) 0 rfl ?_
  refine x_iload_n C (k_dg dt_X5_eats_0 4 7 (.iload_n 1) 1 rfl) 1 rfl ?_
  refine x_aload_n C (k_dg dt_X5_eats_0 5 8 (.aload_n 2) 1 rfl) 2 rfl ?_
  refine x_isRl (a := a0) (fun ha hlt => ?_)
  refine x_callSU C (x := ⟨"WheelCity$Rule", "eats", "(ILWheelCity$Trace;)I"⟩) (a := a0) (vs := [Value.int p1, k_ra Z 74]) (rest := []) ha hlt (c_X6_eats C.2.2.2.2.2.2.2.2.2 G.2.1 a0 p1 M2) cy_X6_eats ⟨rfl, rfl⟩ su_RX5_36.1 su_RX5_36.2.1 su_RX5_36.2.2.1 su_RX5_36.2.2.2 (by decide) im_X6_eats (by decide) (by decide) (by decide) (by decide) rfl rfl (Nat.le_of_ble_eq_true rfl) (k_dg dt_X5_eats_0 6 9 (.invokespecial 36) 3 rfl) (fun r3 M4 => ?_)
  show Sm Z G _ _ _ _ [(0, k_ra Z a0), (1, Value.int p1), (2, k_ra Z 74)] [Value.int r3] _ _
  refine x_aload_n C (k_dg dt_X5_eats_0 7 12 (.aload_n 0) 1 rfl) 0 rfl ?_
  refine x_getRl C (a := a0) (j := 2) (by decide) fl_RX5_40 (k_dg dt_X5_eats_0 8 13 (.getfield 40) 3 rfl) (fun v5 => ?_)
  refine x_isub C (k_dg dt_X5_eats_0 9 16 (.isub) 1 rfl) ?_
  exact x_iret C (by decide) (by decide) (k_dg dt_X5_eats_0 10 17 (.ireturn) 1 rfl)
theorem c_X5_eats {Z : k_Z} (hg : k_Gd Z) (l : Launch) (a0 : Nat) (p1 : Int32) (M : k_M) : Con true Z l yX5_eats cX5_eats 3 (some .int) 4 0 0 emI [k_ra Z a0, Value.int p1, k_ra Z 74] M (f_X5_eats a0 p1 M) := k_con hg (by decide) (Nat.le_of_ble_eq_true rfl) (fun G hl C => m_X5_eats_0 C p1 M)
theorem dt_X1_eats_0 : k_dec cX1_eats [(0, .aload_n 2, 1), (1, .bipush 51, 2), (3, .invokevirtual 25, 3), (6, .aload_n 0, 1), (7, .iload_n 1, 1), (8, .aload_n 2, 1), (9, .invokespecial 35, 3), (12, .aload_n 0, 1), (13, .aload_n 0, 1), (14, .getfield 38, 3), (17, .aload_n 2, 1), (18, .invokevirtual 41, 3), (21, .iadd, 1), (22, .ireturn, 1)] = true := by decide +kernel
def f_X1_eats (a0 : Nat) (p1 : Int32) (M : k_M) : Option (Int32 × k_M) := bd (f_X9_begin 51 M) (fun r1 M2 => isRl M2 a0 (bd (f_X5_eats a0 p1 M2) (fun r3 M4 => gRl M4 a0 1 (fun v5 => bd (vd_Best_rolls a0 v5 M4) (fun r6 M7 => some (r3 + r6, M7))))))
theorem m_X1_eats_0 {Z : k_Z} {G : k_G} {a0 : Nat} (C : k_C Z G RX1 cX1_eats (true, 3, 5, 0, 0) (some .int) "eats") (p1 : Int32) (M : k_M) : Sm Z G emI (true, 3, 5, 0, 0) (0, 0) 0 [(0, k_ra Z a0), (1, Value.int p1), (2, k_ra Z 74)] [] M (f_X1_eats a0 p1 M) := by
  show Sm Z G emI _ _ _ _ _ _ (bd (f_X9_begin 51 M) (fun r1 M2 => isRl M2 a0 (bd (f_X5_eats a0 p1 M2) (fun r3 M4 => gRl M4 a0 1 (fun v5 => bd (vd_Best_rolls a0 v5 M4) (fun r6 M7 => some (r3 + r6, M7)))))))
  refine x_aload_n C (k_dg dt_X1_eats_0 0 0 (.aload_n 2) 1 rfl) 2 rfl ?_
  refine x_bipush C (v := 51) (k_dg dt_X1_eats_0 1 1 (.bipush 51) 2 rfl) (by decide) ?_
  refine x_callV C (a := 74) (kd := 7) (vs := [Value.int 51]) (rest := []) rfl rfl (by decide) (fun r hr => by cases hr; rfl) (c_X9_begin C.2.2.2.2.2.2.2.2.2 G.2.1 51 M) cy_X9_begin lk_RX1_25 im_X9_begin se_X9_begin (by decide) (by decide) (by decide) (by decide) rfl rfl (Nat.le_of_ble_eq_true rfl) (k_dg dt_X1_eats_0 2 3 (.invokevirtual 25) 3 rfl) (fun r1 M2 => ?_)
  show Sm Z G _ _ _ _ [(0, k_ra Z a0), (1, Value.int p1), (2, k_ra Z 74)] [] _ _
  refine x_aload_n C (k_dg dt_X1_eats_0 3 6 (.aload_n 0) 1 rfl) 0 rfl ?_
  refine x_iload_n C (k_dg dt_X1_eats_0 4 7 (.iload_n 1) 1 rfl) 1 rfl ?_
  refine x_aload_n C (k_dg dt_X1_eats_0 5 8 (.aload_n 2) 1 rfl) 2 rfl ?_
  refine x_isRl (a := a0) (fun ha hlt => ?_)
  refine x_callSU C (x := ⟨"WheelCity$Near", "eats", "(ILWheelCity$Trace;)I"⟩) (a := a0) (vs := [Value.int p1, k_ra Z 74]) (rest := []) ha hlt (c_X5_eats C.2.2.2.2.2.2.2.2.2 G.2.1 a0 p1 M2) cy_X5_eats ⟨rfl, rfl⟩ su_RX1_35.1 su_RX1_35.2.1 su_RX1_35.2.2.1 su_RX1_35.2.2.2 (by decide) im_X5_eats (by decide) (by decide) (by decide) (by decide) rfl rfl (Nat.le_of_ble_eq_true rfl) (k_dg dt_X1_eats_0 6 9 (.invokespecial 35) 3 rfl) (fun r3 M4 => ?_)
  show Sm Z G _ _ _ _ [(0, k_ra Z a0), (1, Value.int p1), (2, k_ra Z 74)] [Value.int r3] _ _
  refine x_aload_n C (k_dg dt_X1_eats_0 7 12 (.aload_n 0) 1 rfl) 0 rfl ?_
  refine x_aload_n C (k_dg dt_X1_eats_0 8 13 (.aload_n 0) 1 rfl) 0 rfl ?_
  refine x_getRl C (a := a0) (j := 1) (by decide) fl_RX1_38 (k_dg dt_X1_eats_0 9 14 (.getfield 38) 3 rfl) (fun v5 => ?_)
  refine x_aload_n C (k_dg dt_X1_eats_0 10 17 (.aload_n 2) 1 rfl) 2 rfl ?_
  refine x_vd_Best_rolls C (a := a0) (rest := [Value.int r3]) vl_RX1_41 (by decide) (by decide) (by decide) rfl (Nat.le_of_ble_eq_true rfl) (k_dg dt_X1_eats_0 11 18 (.invokevirtual 41) 3 rfl) (fun r6 M7 => ?_)
  show Sm Z G _ _ _ _ [(0, k_ra Z a0), (1, Value.int p1), (2, k_ra Z 74)] [Value.int r6, Value.int r3] _ _
  refine x_iadd C (k_dg dt_X1_eats_0 12 21 (.iadd) 1 rfl) ?_
  exact x_iret C (by decide) (by decide) (k_dg dt_X1_eats_0 13 22 (.ireturn) 1 rfl)
theorem c_X1_eats {Z : k_Z} (hg : k_Gd Z) (l : Launch) (a0 : Nat) (p1 : Int32) (M : k_M) : Con true Z l yX1_eats cX1_eats 3 (some .int) 5 0 0 emI [k_ra Z a0, Value.int p1, k_ra Z 74] M (f_X1_eats a0 p1 M) := k_con hg (by decide) (Nat.le_of_ble_eq_true rfl) (fun G hl C => m_X1_eats_0 C p1 M)
def vd_Rule_eats (a : Nat) (p1 : Int32) (M : k_M) : Option (Int32 × k_M) := isRl M a (if k_tag (M.1 a 3) = 1 then f_X6_eats a p1 M else if k_tag (M.1 a 3) = 4 then f_X5_eats a p1 M else if k_tag (M.1 a 3) = 3 then f_X6_eats a p1 M else if k_tag (M.1 a 3) = 0 then f_X1_eats a p1 M else f_X6_eats a p1 M)
theorem x_vd_Rule_eats {Z : k_Z} {G : k_G} {ρ : Type} {em : ρ → Option Value} {F2 : Nat × Nat × Nat × Nat} {K : Nat × Nat} {pc : Nat} {lv : List (Nat × Value)} {st rest : List Value} {M : k_M} {own : String} {cc : ByteArray} {ret : Option FieldType} {nm : String} (C : k_C Z G own cc (true, F2) ret nm) {idx a : Nat} {p1 : Int32} {k : Int32 → k_M → Option (ρ × k_M)} (hl : Cond.methodLink own idx (⟨"WheelCity$Rule", "eats", "(ILWheelCity$Trace;)I"⟩ : MethodName) ∈ lw_tbl) (hd : 5 + 1 ≤ F2.2.1) (h1 : K.1 ≤ F2.2.2.1) (h2 : K.2 ≤ F2.2.2.2) (hs : st = [Value.int p1, k_ra Z 74].reverse ++ k_ra Z a :: rest) (hr : (rest.map fun v => v.category).sum ≤ 8) (hdg : decode cc pc = .ok (.invokevirtual idx, 3)) (kk : ∀ (r : Int32) (M1 : k_M), Sm Z G em (true, F2) K (pc + 3) lv (.int r :: rest) M1 (k r M1)) : Sm Z G em (true, F2) K pc lv st M (bd (vd_Rule_eats a p1 M) k) := by
  unfold vd_Rule_eats isRl
  by_cases hc : 105 ≤ a ∧ a < M.2.2.2
  · rw [if_pos hc]
    by_cases ht1 : k_tag (M.1 a 3) = 1
    · rw [if_pos ht1]
      exact x_callD C (r := (RX2, TX2, 3)) (x := (⟨"WheelCity$Rule", "eats", "(ILWheelCity$Trace;)I"⟩ : MethodName)) (y := yX6_eats) (owner := "WheelCity$Rule") (vs := [Value.int p1, k_ra Z 74]) (rest := rest) hc.1 hc.2 (by rw [ht1]; rfl) (c_X6_eats C.2.2.2.2.2.2.2.2.2 G.2.1 a p1 M) cy_X6_eats hl (List.mem_of_getElem? (i := 1013) (by decide +kernel)) (k_decl C (List.mem_of_getElem? (i := 1048) (by decide +kernel))) ⟨by decide +kernel, by decide +kernel⟩ rfl (List.mem_of_getElem? (i := 1023) (by decide +kernel)) im_X6_eats (Nat.le_trans (by decide) hd) (by decide) h1 h2 rfl hs hr hdg (fun r M1 => kk r M1)
    · rw [if_neg ht1]
      by_cases ht4 : k_tag (M.1 a 3) = 4
      · rw [if_pos ht4]
        exact x_callD C (r := (RX5, TX5, 3)) (x := (⟨"WheelCity$Rule", "eats", "(ILWheelCity$Trace;)I"⟩ : MethodName)) (y := yX5_eats) (owner := "WheelCity$Rule") (vs := [Value.int p1, k_ra Z 74]) (rest := rest) hc.1 hc.2 (by rw [ht4]; rfl) (c_X5_eats C.2.2.2.2.2.2.2.2.2 G.2.1 a p1 M) cy_X5_eats hl (List.mem_of_getElem? (i := 1013) (by decide +kernel)) (k_decl C (List.mem_of_getElem? (i := 1048) (by decide +kernel))) ⟨by decide +kernel, by decide +kernel⟩ rfl (List.mem_of_getElem? (i := 1025) (by decide +kernel)) im_X5_eats (Nat.le_trans (by decide) hd) (by decide) h1 h2 rfl hs hr hdg (fun r M1 => kk r M1)
      · rw [if_neg ht4]
        by_cases ht3 : k_tag (M.1 a 3) = 3
        · rw [if_pos ht3]
          exact x_callD C (r := (RX4, TX4, 3)) (x := (⟨"WheelCity$Rule", "eats", "(ILWheelCity$Trace;)I"⟩ : MethodName)) (y := yX6_eats) (owner := "WheelCity$Rule") (vs := [Value.int p1, k_ra Z 74]) (rest := rest) hc.1 hc.2 (by rw [ht3]; rfl) (c_X6_eats C.2.2.2.2.2.2.2.2.2 G.2.1 a p1 M) cy_X6_eats hl (List.mem_of_getElem? (i := 1013) (by decide +kernel)) (k_decl C (List.mem_of_getElem? (i := 1048) (by decide +kernel))) ⟨by decide +kernel, by decide +kernel⟩ rfl (List.mem_of_getElem? (i := 1024) (by decide +kernel)) im_X6_eats (Nat.le_trans (by decide) hd) (by decide) h1 h2 rfl hs hr hdg (fun r M1 => kk r M1)
        · rw [if_neg ht3]
          by_cases ht0 : k_tag (M.1 a 3) = 0
          · rw [if_pos ht0]
            exact x_callD C (r := (RX1, TX1, 3)) (x := (⟨"WheelCity$Rule", "eats", "(ILWheelCity$Trace;)I"⟩ : MethodName)) (y := yX1_eats) (owner := "WheelCity$Rule") (vs := [Value.int p1, k_ra Z 74]) (rest := rest) hc.1 hc.2 (by rw [ht0]; rfl) (c_X1_eats C.2.2.2.2.2.2.2.2.2 G.2.1 a p1 M) cy_X1_eats hl (List.mem_of_getElem? (i := 1013) (by decide +kernel)) (k_decl C (List.mem_of_getElem? (i := 1048) (by decide +kernel))) ⟨by decide +kernel, by decide +kernel⟩ rfl (List.mem_of_getElem? (i := 1014) (by decide +kernel)) im_X1_eats (Nat.le_trans (by decide) hd) (by decide) h1 h2 rfl hs hr hdg (fun r M1 => kk r M1)
          · rw [if_neg ht0]
            exact x_callD C (r := (RX8, TX8, 3)) (x := (⟨"WheelCity$Rule", "eats", "(ILWheelCity$Trace;)I"⟩ : MethodName)) (y := yX6_eats) (owner := "WheelCity$Rule") (vs := [Value.int p1, k_ra Z 74]) (rest := rest) hc.1 hc.2 (by rcases k_tags (M.1 a 3) with h | h | h | h | h; exact absurd h ht1; exact absurd h ht4; exact absurd h ht3; exact absurd h ht0; rw [h]; rfl) (c_X6_eats C.2.2.2.2.2.2.2.2.2 G.2.1 a p1 M) cy_X6_eats hl (List.mem_of_getElem? (i := 1013) (by decide +kernel)) (k_decl C (List.mem_of_getElem? (i := 1048) (by decide +kernel))) ⟨by decide +kernel, by decide +kernel⟩ rfl (List.mem_of_getElem? (i := 1026) (by decide +kernel)) im_X6_eats (Nat.le_trans (by decide) hd) (by decide) h1 h2 rfl hs hr hdg (fun r M1 => kk r M1)
  · rw [if_neg hc]
    exact x_none
def vd_Told_eats (a : Nat) (p1 : Int32) (M : k_M) : Option (Int32 × k_M) := isRl M a (if k_tag (M.1 a 3) = 6 then f_X6_eats a p1 M else none)
theorem x_vd_Told_eats {Z : k_Z} {G : k_G} {ρ : Type} {em : ρ → Option Value} {F2 : Nat × Nat × Nat × Nat} {K : Nat × Nat} {pc : Nat} {lv : List (Nat × Value)} {st rest : List Value} {M : k_M} {own : String} {cc : ByteArray} {ret : Option FieldType} {nm : String} (C : k_C Z G own cc (true, F2) ret nm) {idx a : Nat} {p1 : Int32} {k : Int32 → k_M → Option (ρ × k_M)} (hl : Cond.methodLink own idx (⟨"WheelCity$Told", "eats", "(ILWheelCity$Trace;)I"⟩ : MethodName) ∈ lw_tbl) (hd : 3 + 1 ≤ F2.2.1) (h1 : K.1 ≤ F2.2.2.1) (h2 : K.2 ≤ F2.2.2.2) (hs : st = [Value.int p1, k_ra Z 74].reverse ++ k_ra Z a :: rest) (hr : (rest.map fun v => v.category).sum ≤ 8) (hdg : decode cc pc = .ok (.invokevirtual idx, 3)) (kk : ∀ (r : Int32) (M1 : k_M), Sm Z G em (true, F2) K (pc + 3) lv (.int r :: rest) M1 (k r M1)) : Sm Z G em (true, F2) K pc lv st M (bd (vd_Told_eats a p1 M) k) := by
  unfold vd_Told_eats isRl
  by_cases hc : 105 ≤ a ∧ a < M.2.2.2
  · rw [if_pos hc]
    by_cases ht6 : k_tag (M.1 a 3) = 6
    · rw [if_pos ht6]
      exact x_callD C (r := (RX8, TX8, 3)) (x := (⟨"WheelCity$Told", "eats", "(ILWheelCity$Trace;)I"⟩ : MethodName)) (y := yX6_eats) (owner := "WheelCity$Rule") (vs := [Value.int p1, k_ra Z 74]) (rest := rest) hc.1 hc.2 (by rw [ht6]; rfl) (c_X6_eats C.2.2.2.2.2.2.2.2.2 G.2.1 a p1 M) cy_X6_eats hl (List.mem_of_getElem? (i := 1047) (by decide +kernel)) (k_decl C (List.mem_of_getElem? (i := 1048) (by decide +kernel))) ⟨by decide +kernel, by decide +kernel⟩ rfl (List.mem_of_getElem? (i := 1049) (by decide +kernel)) im_X6_eats (Nat.le_trans (by decide) hd) (by decide) h1 h2 rfl hs hr hdg (fun r M1 => kk r M1)
    · rw [if_neg ht6]
      exact x_none
  · rw [if_neg hc]
    exact x_none
theorem dt_X6_shares_0 : k_dec cX6_shares [(0, .aload_n 2, 1), (1, .bipush 12, 2), (3, .invokevirtual 42, 3), (6, .aload_n 0, 1), (7, .getfield 16, 3), (10, .aload_n 0, 1), (11, .getfield 13, 3), (14, .isub, 1), (15, .istore_n 3, 1), (16, .iload_n 3, 1), (17, .ifCond .ne 10, 3), (20, .aload_n 2, 1), (21, .iconst 1, 1), (22, .putfield 29, 3), (25, .iconst 0, 1), (26, .ireturn, 1), (27, .iload_n 1, 1), (28, .iload_n 3, 1), (29, .idiv, 1), (30, .ireturn, 1)] = true := by decide +kernel
def f_X6_shares (a0 : Nat) (p1 : Int32) (M : k_M) : Option (Int32 × k_M) := bd (f_X9_begin 12 M) (fun r1 M2 => gRl M2 a0 2 (fun v3 => gRl M2 a0 1 (fun v4 => bN (v3 - v4) (fun v5 => if v5 = 0 then bN (sI M2 74 2 1) (fun M7 => some (0, M7)) else dv v5 (some (p1 / v5, M2))))))
theorem m_X6_shares_0 {Z : k_Z} {G : k_G} {a0 : Nat} (C : k_C Z G RX6 cX6_shares (true, 4, 2, 0, 0) (some .int) "shares") (p1 : Int32) (M : k_M) : Sm Z G emI (true, 4, 2, 0, 0) (0, 0) 0 [(0, k_ra Z a0), (1, Value.int p1), (2, k_ra Z 74)] [] M (f_X6_shares a0 p1 M) := by
  show Sm Z G emI _ _ _ _ _ _ (bd (f_X9_begin 12 M) (fun r1 M2 => gRl M2 a0 2 (fun v3 => gRl M2 a0 1 (fun v4 => bN (v3 - v4) (fun v5 => if v5 = 0 then bN (sI M2 74 2 1) (fun M7 => some (0, M7)) else dv v5 (some (p1 / v5, M2)))))))
  refine x_aload_n C (k_dg dt_X6_shares_0 0 0 (.aload_n 2) 1 rfl) 2 rfl ?_
  refine x_bipush C (v := 12) (k_dg dt_X6_shares_0 1 1 (.bipush 12) 2 rfl) (by decide) ?_
  refine x_callV C (a := 74) (kd := 7) (vs := [Value.int 12]) (rest := []) rfl rfl (by decide) (fun r hr => by cases hr; rfl) (c_X9_begin C.2.2.2.2.2.2.2.2.2 G.2.1 12 M) cy_X9_begin lk_RX6_42 im_X9_begin se_X9_begin (by decide) (by decide) (by decide) (by decide) rfl rfl (Nat.le_of_ble_eq_true rfl) (k_dg dt_X6_shares_0 2 3 (.invokevirtual 42) 3 rfl) (fun r1 M2 => ?_)
  show Sm Z G _ _ _ _ [(0, k_ra Z a0), (1, Value.int p1), (2, k_ra Z 74)] [] _ _
  refine x_aload_n C (k_dg dt_X6_shares_0 3 6 (.aload_n 0) 1 rfl) 0 rfl ?_
  refine x_getRl C (a := a0) (j := 2) (by decide) fl_RX6_16 (k_dg dt_X6_shares_0 4 7 (.getfield 16) 3 rfl) (fun v3 => ?_)
  refine x_aload_n C (k_dg dt_X6_shares_0 5 10 (.aload_n 0) 1 rfl) 0 rfl ?_
  refine x_getRl C (a := a0) (j := 1) (by decide) fl_RX6_13 (k_dg dt_X6_shares_0 6 11 (.getfield 13) 3 rfl) (fun v4 => ?_)
  refine x_isub C (k_dg dt_X6_shares_0 7 14 (.isub) 1 rfl) ?_
  refine x_nm (w := Value.int) (fun v5 _ => ?_)
  refine x_istore_n C (lv' := [(3, Value.int v5), (0, k_ra Z a0), (1, Value.int p1), (2, k_ra Z 74)]) (k_dg dt_X6_shares_0 8 15 (.istore_n 3) 1 rfl) (by decide) rfl ?_
  refine x_iload_n C (k_dg dt_X6_shares_0 9 16 (.iload_n 3) 1 rfl) 0 rfl ?_
  refine x_if_ne C (tgt := 27) (k_dg dt_X6_shares_0 10 17 (.ifCond .ne 10) 3 rfl) (by decide) (fun _ => ?_) (fun _ => ?_)
  · refine x_aload_n C (k_dg dt_X6_shares_0 11 20 (.aload_n 2) 1 rfl) 3 rfl ?_
    refine x_iconst C (v := 1) (k_dg dt_X6_shares_0 12 21 (.iconst 1) 1 rfl) (by decide) ?_
    refine x_putI C (a := 74) (j := 2) rfl rfl (by decide) fl_RX6_29 rfl pt_7_2 tb_7 rfl rfl (k_dg dt_X6_shares_0 13 22 (.putfield 29) 3 rfl) (fun M7 => ?_)
    refine x_iconst C (v := 0) (k_dg dt_X6_shares_0 14 25 (.iconst 0) 1 rfl) (by decide) ?_
    exact x_iret C (by decide) (by decide) (k_dg dt_X6_shares_0 15 26 (.ireturn) 1 rfl)
  · refine x_iload_n C (k_dg dt_X6_shares_0 16 27 (.iload_n 1) 1 rfl) 2 rfl ?_
    refine x_iload_n C (k_dg dt_X6_shares_0 17 28 (.iload_n 3) 1 rfl) 0 rfl ?_
    refine x_dv (y := v5) (fun h6 => ?_)
    refine x_idivC C (k_dg dt_X6_shares_0 18 29 (.idiv) 1 rfl) h6 ?_
    exact x_iret C (by decide) (by decide) (k_dg dt_X6_shares_0 19 30 (.ireturn) 1 rfl)
theorem c_X6_shares {Z : k_Z} (hg : k_Gd Z) (l : Launch) (a0 : Nat) (p1 : Int32) (M : k_M) : Con true Z l yX6_shares cX6_shares 4 (some .int) 2 0 0 emI [k_ra Z a0, Value.int p1, k_ra Z 74] M (f_X6_shares a0 p1 M) := k_con hg (by decide) (Nat.le_of_ble_eq_true rfl) (fun G hl C => m_X6_shares_0 C p1 M)
theorem dt_X4_shares_0 : k_dec cX4_shares [(0, .aload_n 2, 1), (1, .bipush 40, 2), (3, .invokevirtual 22, 3), (6, .aload_n 0, 1), (7, .iload_n 1, 1), (8, .iconst 2, 1), (9, .iadd, 1), (10, .aload_n 2, 1), (11, .invokespecial 28, 3), (14, .iconst 1, 1), (15, .ixor, 1), (16, .ireturn, 1)] = true := by decide +kernel
def f_X4_shares (a0 : Nat) (p1 : Int32) (M : k_M) : Option (Int32 × k_M) := bd (f_X9_begin 40 M) (fun r1 M2 => isRl M2 a0 (bd (f_X6_shares a0 (p1 + 2) M2) (fun r3 M4 => some (r3 ^^^ 1, M4))))
theorem m_X4_shares_0 {Z : k_Z} {G : k_G} {a0 : Nat} (C : k_C Z G RX4 cX4_shares (true, 3, 3, 0, 0) (some .int) "shares") (p1 : Int32) (M : k_M) : Sm Z G emI (true, 3, 3, 0, 0) (0, 0) 0 [(0, k_ra Z a0), (1, Value.int p1), (2, k_ra Z 74)] [] M (f_X4_shares a0 p1 M) := by
  show Sm Z G emI _ _ _ _ _ _ (bd (f_X9_begin 40 M) (fun r1 M2 => isRl M2 a0 (bd (f_X6_shares a0 (p1 + 2) M2) (fun r3 M4 => some (r3 ^^^ 1, M4)))))
  refine x_aload_n C (k_dg dt_X4_shares_0 0 0 (.aload_n 2) 1 rfl) 2 rfl ?_
  refine x_bipush C (v := 40) (k_dg dt_X4_shares_0 1 1 (.bipush 40) 2 rfl) (by decide) ?_
  refine x_callV C (a := 74) (kd := 7) (vs := [Value.int 40]) (rest := []) rfl rfl (by decide) (fun r hr => by cases hr; rfl) (c_X9_begin C.2.2.2.2.2.2.2.2.2 G.2.1 40 M) cy_X9_begin lk_RX4_22 im_X9_begin se_X9_begin (by decide) (by decide) (by decide) (by decide) rfl rfl (Nat.le_of_ble_eq_true rfl) (k_dg dt_X4_shares_0 2 3 (.invokevirtual 22) 3 rfl) (fun r1 M2 => ?_)
  show Sm Z G _ _ _ _ [(0, k_ra Z a0), (1, Value.int p1), (2, k_ra Z 74)] [] _ _
  refine x_aload_n C (k_dg dt_X4_shares_0 3 6 (.aload_n 0) 1 rfl) 0 rfl ?_
  refine x_iload_n C (k_dg dt_X4_shares_0 4 7 (.iload_n 1) 1 rfl) 1 rfl ?_
  refine x_iconst C (v := 2) (k_dg dt_X4_shares_0 5 8 (.iconst 2) 1 rfl) (by decide) ?_
  refine x_iadd C (k_dg dt_X4_shares_0 6 9 (.iadd) 1 rfl) ?_
  refine x_aload_n C (k_dg dt_X4_shares_0 7 10 (.aload_n 2) 1 rfl) 2 rfl ?_
  refine x_isRl (a := a0) (fun ha hlt => ?_)
  refine x_callSU C (x := ⟨"WheelCity$Rule", "shares", "(ILWheelCity$Trace;)I"⟩) (a := a0) (vs := [Value.int (p1 + 2), k_ra Z 74]) (rest := []) ha hlt (c_X6_shares C.2.2.2.2.2.2.2.2.2 G.2.1 a0 (p1 + 2) M2) cy_X6_shares ⟨rfl, rfl⟩ su_RX4_28.1 su_RX4_28.2.1 su_RX4_28.2.2.1 su_RX4_28.2.2.2 (by decide) im_X6_shares (by decide) (by decide) (by decide) (by decide) rfl rfl (Nat.le_of_ble_eq_true rfl) (k_dg dt_X4_shares_0 8 11 (.invokespecial 28) 3 rfl) (fun r3 M4 => ?_)
  show Sm Z G _ _ _ _ [(0, k_ra Z a0), (1, Value.int p1), (2, k_ra Z 74)] [Value.int r3] _ _
  refine x_iconst C (v := 1) (k_dg dt_X4_shares_0 9 14 (.iconst 1) 1 rfl) (by decide) ?_
  refine x_ixor C (k_dg dt_X4_shares_0 10 15 (.ixor) 1 rfl) ?_
  exact x_iret C (by decide) (by decide) (k_dg dt_X4_shares_0 11 16 (.ireturn) 1 rfl)
theorem c_X4_shares {Z : k_Z} (hg : k_Gd Z) (l : Launch) (a0 : Nat) (p1 : Int32) (M : k_M) : Con true Z l yX4_shares cX4_shares 3 (some .int) 3 0 0 emI [k_ra Z a0, Value.int p1, k_ra Z 74] M (f_X4_shares a0 p1 M) := k_con hg (by decide) (Nat.le_of_ble_eq_true rfl) (fun G hl C => m_X4_shares_0 C p1 M)
theorem dt_X8_shares_0 : k_dec cX8_shares [(0, .aload_n 2, 1), (1, .bipush 60, 2), (3, .invokevirtual 17, 3), (6, .aload_n 0, 1), (7, .iload_n 1, 1), (8, .aload_n 2, 1), (9, .invokespecial 23, 3), (12, .aload_n 0, 1), (13, .aload_n 0, 1), (14, .getfield 27, 3), (17, .aload_n 2, 1), (18, .invokevirtual 33, 3), (21, .iadd, 1), (22, .ireturn, 1)] = true := by decide +kernel
def f_X8_shares (a0 : Nat) (p1 : Int32) (M : k_M) : Option (Int32 × k_M) := bd (f_X9_begin 60 M) (fun r1 M2 => isRl M2 a0 (bd (f_X4_shares a0 p1 M2) (fun r3 M4 => gRl M4 a0 2 (fun v5 => bd (vd_Told_eats a0 v5 M4) (fun r6 M7 => some (r3 + r6, M7))))))
theorem m_X8_shares_0 {Z : k_Z} {G : k_G} {a0 : Nat} (C : k_C Z G RX8 cX8_shares (true, 3, 4, 0, 0) (some .int) "shares") (p1 : Int32) (M : k_M) : Sm Z G emI (true, 3, 4, 0, 0) (0, 0) 0 [(0, k_ra Z a0), (1, Value.int p1), (2, k_ra Z 74)] [] M (f_X8_shares a0 p1 M) := by
  show Sm Z G emI _ _ _ _ _ _ (bd (f_X9_begin 60 M) (fun r1 M2 => isRl M2 a0 (bd (f_X4_shares a0 p1 M2) (fun r3 M4 => gRl M4 a0 2 (fun v5 => bd (vd_Told_eats a0 v5 M4) (fun r6 M7 => some (r3 + r6, M7)))))))
  refine x_aload_n C (k_dg dt_X8_shares_0 0 0 (.aload_n 2) 1 rfl) 2 rfl ?_
  refine x_bipush C (v := 60) (k_dg dt_X8_shares_0 1 1 (.bipush 60) 2 rfl) (by decide) ?_
  refine x_callV C (a := 74) (kd := 7) (vs := [Value.int 60]) (rest := []) rfl rfl (by decide) (fun r hr => by cases hr; rfl) (c_X9_begin C.2.2.2.2.2.2.2.2.2 G.2.1 60 M) cy_X9_begin lk_RX8_17 im_X9_begin se_X9_begin (by decide) (by decide) (by decide) (by decide) rfl rfl (Nat.le_of_ble_eq_true rfl) (k_dg dt_X8_shares_0 2 3 (.invokevirtual 17) 3 rfl) (fun r1 M2 => ?_)
  show Sm Z G _ _ _ _ [(0, k_ra Z a0), (1, Value.int p1), (2, k_ra Z 74)] [] _ _
  refine x_aload_n C (k_dg dt_X8_shares_0 3 6 (.aload_n 0) 1 rfl) 0 rfl ?_
  refine x_iload_n C (k_dg dt_X8_shares_0 4 7 (.iload_n 1) 1 rfl) 1 rfl ?_
  refine x_aload_n C (k_dg dt_X8_shares_0 5 8 (.aload_n 2) 1 rfl) 2 rfl ?_
  refine x_isRl (a := a0) (fun ha hlt => ?_)
  refine x_callSU C (x := ⟨"WheelCity$Loop", "shares", "(ILWheelCity$Trace;)I"⟩) (a := a0) (vs := [Value.int p1, k_ra Z 74]) (rest := []) ha hlt (c_X4_shares C.2.2.2.2.2.2.2.2.2 G.2.1 a0 p1 M2) cy_X4_shares ⟨rfl, rfl⟩ su_RX8_23.1 su_RX8_23.2.1 su_RX8_23.2.2.1 su_RX8_23.2.2.2 (by decide) im_X4_shares (by decide) (by decide) (by decide) (by decide) rfl rfl (Nat.le_of_ble_eq_true rfl) (k_dg dt_X8_shares_0 6 9 (.invokespecial 23) 3 rfl) (fun r3 M4 => ?_)
  show Sm Z G _ _ _ _ [(0, k_ra Z a0), (1, Value.int p1), (2, k_ra Z 74)] [Value.int r3] _ _
  refine x_aload_n C (k_dg dt_X8_shares_0 7 12 (.aload_n 0) 1 rfl) 0 rfl ?_
  refine x_aload_n C (k_dg dt_X8_shares_0 8 13 (.aload_n 0) 1 rfl) 0 rfl ?_
  refine x_getRl C (a := a0) (j := 2) (by decide) fl_RX8_27 (k_dg dt_X8_shares_0 9 14 (.getfield 27) 3 rfl) (fun v5 => ?_)
  refine x_aload_n C (k_dg dt_X8_shares_0 10 17 (.aload_n 2) 1 rfl) 2 rfl ?_
  refine x_vd_Told_eats C (a := a0) (rest := [Value.int r3]) vl_RX8_33 (by decide) (by decide) (by decide) rfl (Nat.le_of_ble_eq_true rfl) (k_dg dt_X8_shares_0 11 18 (.invokevirtual 33) 3 rfl) (fun r6 M7 => ?_)
  show Sm Z G _ _ _ _ [(0, k_ra Z a0), (1, Value.int p1), (2, k_ra Z 74)] [Value.int r6, Value.int r3] _ _
  refine x_iadd C (k_dg dt_X8_shares_0 12 21 (.iadd) 1 rfl) ?_
  exact x_iret C (by decide) (by decide) (k_dg dt_X8_shares_0 13 22 (.ireturn) 1 rfl)
theorem c_X8_shares {Z : k_Z} (hg : k_Gd Z) (l : Launch) (a0 : Nat) (p1 : Int32) (M : k_M) : Con true Z l yX8_shares cX8_shares 3 (some .int) 4 0 0 emI [k_ra Z a0, Value.int p1, k_ra Z 74] M (f_X8_shares a0 p1 M) := k_con hg (by decide) (Nat.le_of_ble_eq_true rfl) (fun G hl C => m_X8_shares_0 C p1 M)
def vd_Rule_shares (a : Nat) (p1 : Int32) (M : k_M) : Option (Int32 × k_M) := isRl M a (if k_tag (M.1 a 3) = 1 then f_X6_shares a p1 M else if k_tag (M.1 a 3) = 4 then f_X6_shares a p1 M else if k_tag (M.1 a 3) = 3 then f_X4_shares a p1 M else if k_tag (M.1 a 3) = 0 then f_X6_shares a p1 M else f_X8_shares a p1 M)
theorem x_vd_Rule_shares {Z : k_Z} {G : k_G} {ρ : Type} {em : ρ → Option Value} {F2 : Nat × Nat × Nat × Nat} {K : Nat × Nat} {pc : Nat} {lv : List (Nat × Value)} {st rest : List Value} {M : k_M} {own : String} {cc : ByteArray} {ret : Option FieldType} {nm : String} (C : k_C Z G own cc (true, F2) ret nm) {idx a : Nat} {p1 : Int32} {k : Int32 → k_M → Option (ρ × k_M)} (hl : Cond.methodLink own idx (⟨"WheelCity$Rule", "shares", "(ILWheelCity$Trace;)I"⟩ : MethodName) ∈ lw_tbl) (hd : 4 + 1 ≤ F2.2.1) (h1 : K.1 ≤ F2.2.2.1) (h2 : K.2 ≤ F2.2.2.2) (hs : st = [Value.int p1, k_ra Z 74].reverse ++ k_ra Z a :: rest) (hr : (rest.map fun v => v.category).sum ≤ 8) (hdg : decode cc pc = .ok (.invokevirtual idx, 3)) (kk : ∀ (r : Int32) (M1 : k_M), Sm Z G em (true, F2) K (pc + 3) lv (.int r :: rest) M1 (k r M1)) : Sm Z G em (true, F2) K pc lv st M (bd (vd_Rule_shares a p1 M) k) := by
  unfold vd_Rule_shares isRl
  by_cases hc : 105 ≤ a ∧ a < M.2.2.2
  · rw [if_pos hc]
    by_cases ht1 : k_tag (M.1 a 3) = 1
    · rw [if_pos ht1]
      exact x_callD C (r := (RX2, TX2, 3)) (x := (⟨"WheelCity$Rule", "shares", "(ILWheelCity$Trace;)I"⟩ : MethodName)) (y := yX6_shares) (owner := "WheelCity$Rule") (vs := [Value.int p1, k_ra Z 74]) (rest := rest) hc.1 hc.2 (by rw [ht1]; rfl) (c_X6_shares C.2.2.2.2.2.2.2.2.2 G.2.1 a p1 M) cy_X6_shares hl (List.mem_of_getElem? (i := 1032) (by decide +kernel)) (k_decl C (List.mem_of_getElem? (i := 1060) (by decide +kernel))) ⟨by decide +kernel, by decide +kernel⟩ rfl (List.mem_of_getElem? (i := 1034) (by decide +kernel)) im_X6_shares (Nat.le_trans (by decide) hd) (by decide) h1 h2 rfl hs hr hdg (fun r M1 => kk r M1)
    · rw [if_neg ht1]
      by_cases ht4 : k_tag (M.1 a 3) = 4
      · rw [if_pos ht4]
        exact x_callD C (r := (RX5, TX5, 3)) (x := (⟨"WheelCity$Rule", "shares", "(ILWheelCity$Trace;)I"⟩ : MethodName)) (y := yX6_shares) (owner := "WheelCity$Rule") (vs := [Value.int p1, k_ra Z 74]) (rest := rest) hc.1 hc.2 (by rw [ht4]; rfl) (c_X6_shares C.2.2.2.2.2.2.2.2.2 G.2.1 a p1 M) cy_X6_shares hl (List.mem_of_getElem? (i := 1032) (by decide +kernel)) (k_decl C (List.mem_of_getElem? (i := 1060) (by decide +kernel))) ⟨by decide +kernel, by decide +kernel⟩ rfl (List.mem_of_getElem? (i := 1040) (by decide +kernel)) im_X6_shares (Nat.le_trans (by decide) hd) (by decide) h1 h2 rfl hs hr hdg (fun r M1 => kk r M1)
      · rw [if_neg ht4]
        by_cases ht3 : k_tag (M.1 a 3) = 3
        · rw [if_pos ht3]
          exact x_callD C (r := (RX4, TX4, 3)) (x := (⟨"WheelCity$Rule", "shares", "(ILWheelCity$Trace;)I"⟩ : MethodName)) (y := yX4_shares) (owner := "WheelCity$Rule") (vs := [Value.int p1, k_ra Z 74]) (rest := rest) hc.1 hc.2 (by rw [ht3]; rfl) (c_X4_shares C.2.2.2.2.2.2.2.2.2 G.2.1 a p1 M) cy_X4_shares hl (List.mem_of_getElem? (i := 1032) (by decide +kernel)) (k_decl C (List.mem_of_getElem? (i := 1060) (by decide +kernel))) ⟨by decide +kernel, by decide +kernel⟩ rfl (List.mem_of_getElem? (i := 1035) (by decide +kernel)) im_X4_shares (Nat.le_trans (by decide) hd) (by decide) h1 h2 rfl hs hr hdg (fun r M1 => kk r M1)
        · rw [if_neg ht3]
          by_cases ht0 : k_tag (M.1 a 3) = 0
          · rw [if_pos ht0]
            exact x_callD C (r := (RX1, TX1, 3)) (x := (⟨"WheelCity$Rule", "shares", "(ILWheelCity$Trace;)I"⟩ : MethodName)) (y := yX6_shares) (owner := "WheelCity$Rule") (vs := [Value.int p1, k_ra Z 74]) (rest := rest) hc.1 hc.2 (by rw [ht0]; rfl) (c_X6_shares C.2.2.2.2.2.2.2.2.2 G.2.1 a p1 M) cy_X6_shares hl (List.mem_of_getElem? (i := 1032) (by decide +kernel)) (k_decl C (List.mem_of_getElem? (i := 1060) (by decide +kernel))) ⟨by decide +kernel, by decide +kernel⟩ rfl (List.mem_of_getElem? (i := 1033) (by decide +kernel)) im_X6_shares (Nat.le_trans (by decide) hd) (by decide) h1 h2 rfl hs hr hdg (fun r M1 => kk r M1)
          · rw [if_neg ht0]
            exact x_callD C (r := (RX8, TX8, 3)) (x := (⟨"WheelCity$Rule", "shares", "(ILWheelCity$Trace;)I"⟩ : MethodName)) (y := yX8_shares) (owner := "WheelCity$Rule") (vs := [Value.int p1, k_ra Z 74]) (rest := rest) hc.1 hc.2 (by rcases k_tags (M.1 a 3) with h | h | h | h | h; exact absurd h ht1; exact absurd h ht4; exact absurd h ht3; exact absurd h ht0; rw [h]; rfl) (c_X8_shares C.2.2.2.2.2.2.2.2.2 G.2.1 a p1 M) cy_X8_shares hl (List.mem_of_getElem? (i := 1032) (by decide +kernel)) (k_decl C (List.mem_of_getElem? (i := 1060) (by decide +kernel))) ⟨by decide +kernel, by decide +kernel⟩ rfl (List.mem_of_getElem? (i := 1041) (by decide +kernel)) im_X8_shares (Nat.le_trans (by decide) hd) (by decide) h1 h2 rfl hs hr hdg (fun r M1 => kk r M1)
  · rw [if_neg hc]
    exact x_none
def vd_Near_shares (a : Nat) (p1 : Int32) (M : k_M) : Option (Int32 × k_M) := isRl M a (if k_tag (M.1 a 3) = 4 then f_X6_shares a p1 M else if k_tag (M.1 a 3) = 0 then f_X6_shares a p1 M else none)
theorem x_vd_Near_shares {Z : k_Z} {G : k_G} {ρ : Type} {em : ρ → Option Value} {F2 : Nat × Nat × Nat × Nat} {K : Nat × Nat} {pc : Nat} {lv : List (Nat × Value)} {st rest : List Value} {M : k_M} {own : String} {cc : ByteArray} {ret : Option FieldType} {nm : String} (C : k_C Z G own cc (true, F2) ret nm) {idx a : Nat} {p1 : Int32} {k : Int32 → k_M → Option (ρ × k_M)} (hl : Cond.methodLink own idx (⟨"WheelCity$Near", "shares", "(ILWheelCity$Trace;)I"⟩ : MethodName) ∈ lw_tbl) (hd : 2 + 1 ≤ F2.2.1) (h1 : K.1 ≤ F2.2.2.1) (h2 : K.2 ≤ F2.2.2.2) (hs : st = [Value.int p1, k_ra Z 74].reverse ++ k_ra Z a :: rest) (hr : (rest.map fun v => v.category).sum ≤ 8) (hdg : decode cc pc = .ok (.invokevirtual idx, 3)) (kk : ∀ (r : Int32) (M1 : k_M), Sm Z G em (true, F2) K (pc + 3) lv (.int r :: rest) M1 (k r M1)) : Sm Z G em (true, F2) K pc lv st M (bd (vd_Near_shares a p1 M) k) := by
  unfold vd_Near_shares isRl
  by_cases hc : 105 ≤ a ∧ a < M.2.2.2
  · rw [if_pos hc]
    by_cases ht4 : k_tag (M.1 a 3) = 4
    · rw [if_pos ht4]
      exact x_callD C (r := (RX5, TX5, 3)) (x := (⟨"WheelCity$Near", "shares", "(ILWheelCity$Trace;)I"⟩ : MethodName)) (y := yX6_shares) (owner := "WheelCity$Rule") (vs := [Value.int p1, k_ra Z 74]) (rest := rest) hc.1 hc.2 (by rw [ht4]; rfl) (c_X6_shares C.2.2.2.2.2.2.2.2.2 G.2.1 a p1 M) cy_X6_shares hl (List.mem_of_getElem? (i := 1059) (by decide +kernel)) (k_decl C (List.mem_of_getElem? (i := 1060) (by decide +kernel))) ⟨by decide +kernel, by decide +kernel⟩ rfl (List.mem_of_getElem? (i := 1062) (by decide +kernel)) im_X6_shares (Nat.le_trans (by decide) hd) (by decide) h1 h2 rfl hs hr hdg (fun r M1 => kk r M1)
    · rw [if_neg ht4]
      by_cases ht0 : k_tag (M.1 a 3) = 0
      · rw [if_pos ht0]
        exact x_callD C (r := (RX1, TX1, 3)) (x := (⟨"WheelCity$Near", "shares", "(ILWheelCity$Trace;)I"⟩ : MethodName)) (y := yX6_shares) (owner := "WheelCity$Rule") (vs := [Value.int p1, k_ra Z 74]) (rest := rest) hc.1 hc.2 (by rw [ht0]; rfl) (c_X6_shares C.2.2.2.2.2.2.2.2.2 G.2.1 a p1 M) cy_X6_shares hl (List.mem_of_getElem? (i := 1059) (by decide +kernel)) (k_decl C (List.mem_of_getElem? (i := 1060) (by decide +kernel))) ⟨by decide +kernel, by decide +kernel⟩ rfl (List.mem_of_getElem? (i := 1061) (by decide +kernel)) im_X6_shares (Nat.le_trans (by decide) hd) (by decide) h1 h2 rfl hs hr hdg (fun r M1 => kk r M1)
      · rw [if_neg ht0]
        exact x_none
  · rw [if_neg hc]
    exact x_none
theorem dt_X6_tells_0 : k_dec cX6_tells [(0, .aload_n 2, 1), (1, .bipush 13, 2), (3, .invokevirtual 42, 3), (6, .aload_n 0, 1), (7, .iload_n 1, 1), (8, .aload_n 2, 1), (9, .invokevirtual 50, 3), (12, .aload_n 0, 1), (13, .getfield 16, 3), (16, .ixor, 1), (17, .ireturn, 1)] = true := by decide +kernel
def f_X6_tells (a0 : Nat) (p1 : Int32) (M : k_M) : Option (Int32 × k_M) := bd (f_X9_begin 13 M) (fun r1 M2 => bd (vd_Rule_eats a0 p1 M2) (fun r3 M4 => gRl M4 a0 2 (fun v5 => some (r3 ^^^ v5, M4))))
theorem m_X6_tells_0 {Z : k_Z} {G : k_G} {a0 : Nat} (C : k_C Z G RX6 cX6_tells (true, 3, 6, 0, 0) (some .int) "tells") (p1 : Int32) (M : k_M) : Sm Z G emI (true, 3, 6, 0, 0) (0, 0) 0 [(0, k_ra Z a0), (1, Value.int p1), (2, k_ra Z 74)] [] M (f_X6_tells a0 p1 M) := by
  show Sm Z G emI _ _ _ _ _ _ (bd (f_X9_begin 13 M) (fun r1 M2 => bd (vd_Rule_eats a0 p1 M2) (fun r3 M4 => gRl M4 a0 2 (fun v5 => some (r3 ^^^ v5, M4)))))
  refine x_aload_n C (k_dg dt_X6_tells_0 0 0 (.aload_n 2) 1 rfl) 2 rfl ?_
  refine x_bipush C (v := 13) (k_dg dt_X6_tells_0 1 1 (.bipush 13) 2 rfl) (by decide) ?_
  refine x_callV C (a := 74) (kd := 7) (vs := [Value.int 13]) (rest := []) rfl rfl (by decide) (fun r hr => by cases hr; rfl) (c_X9_begin C.2.2.2.2.2.2.2.2.2 G.2.1 13 M) cy_X9_begin lk_RX6_42 im_X9_begin se_X9_begin (by decide) (by decide) (by decide) (by decide) rfl rfl (Nat.le_of_ble_eq_true rfl) (k_dg dt_X6_tells_0 2 3 (.invokevirtual 42) 3 rfl) (fun r1 M2 => ?_)
  show Sm Z G _ _ _ _ [(0, k_ra Z a0), (1, Value.int p1), (2, k_ra Z 74)] [] _ _
  refine x_aload_n C (k_dg dt_X6_tells_0 3 6 (.aload_n 0) 1 rfl) 0 rfl ?_
  refine x_iload_n C (k_dg dt_X6_tells_0 4 7 (.iload_n 1) 1 rfl) 1 rfl ?_
  refine x_aload_n C (k_dg dt_X6_tells_0 5 8 (.aload_n 2) 1 rfl) 2 rfl ?_
  refine x_vd_Rule_eats C (a := a0) (rest := []) vl_RX6_50 (by decide) (by decide) (by decide) rfl (Nat.le_of_ble_eq_true rfl) (k_dg dt_X6_tells_0 6 9 (.invokevirtual 50) 3 rfl) (fun r3 M4 => ?_)
  show Sm Z G _ _ _ _ [(0, k_ra Z a0), (1, Value.int p1), (2, k_ra Z 74)] [Value.int r3] _ _
  refine x_aload_n C (k_dg dt_X6_tells_0 7 12 (.aload_n 0) 1 rfl) 0 rfl ?_
  refine x_getRl C (a := a0) (j := 2) (by decide) fl_RX6_16 (k_dg dt_X6_tells_0 8 13 (.getfield 16) 3 rfl) (fun v5 => ?_)
  refine x_ixor C (k_dg dt_X6_tells_0 9 16 (.ixor) 1 rfl) ?_
  exact x_iret C (by decide) (by decide) (k_dg dt_X6_tells_0 10 17 (.ireturn) 1 rfl)
theorem c_X6_tells {Z : k_Z} (hg : k_Gd Z) (l : Launch) (a0 : Nat) (p1 : Int32) (M : k_M) : Con true Z l yX6_tells cX6_tells 3 (some .int) 6 0 0 emI [k_ra Z a0, Value.int p1, k_ra Z 74] M (f_X6_tells a0 p1 M) := k_con hg (by decide) (Nat.le_of_ble_eq_true rfl) (fun G hl C => m_X6_tells_0 C p1 M)
theorem dt_X5_tells_0 : k_dec cX5_tells [(0, .aload_n 2, 1), (1, .bipush 31, 2), (3, .invokevirtual 30, 3), (6, .aload_n 0, 1), (7, .iload_n 1, 1), (8, .aload_n 2, 1), (9, .invokespecial 45, 3), (12, .aload_n 0, 1), (13, .aload_n 0, 1), (14, .getfield 48, 3), (17, .aload_n 2, 1), (18, .invokevirtual 51, 3), (21, .iadd, 1), (22, .ireturn, 1)] = true := by decide +kernel
def f_X5_tells (a0 : Nat) (p1 : Int32) (M : k_M) : Option (Int32 × k_M) := bd (f_X9_begin 31 M) (fun r1 M2 => isRl M2 a0 (bd (f_X6_tells a0 p1 M2) (fun r3 M4 => gRl M4 a0 1 (fun v5 => bd (vd_Near_shares a0 v5 M4) (fun r6 M7 => some (r3 + r6, M7))))))
theorem m_X5_tells_0 {Z : k_Z} {G : k_G} {a0 : Nat} (C : k_C Z G RX5 cX5_tells (true, 3, 7, 0, 0) (some .int) "tells") (p1 : Int32) (M : k_M) : Sm Z G emI (true, 3, 7, 0, 0) (0, 0) 0 [(0, k_ra Z a0), (1, Value.int p1), (2, k_ra Z 74)] [] M (f_X5_tells a0 p1 M) := by
  show Sm Z G emI _ _ _ _ _ _ (bd (f_X9_begin 31 M) (fun r1 M2 => isRl M2 a0 (bd (f_X6_tells a0 p1 M2) (fun r3 M4 => gRl M4 a0 1 (fun v5 => bd (vd_Near_shares a0 v5 M4) (fun r6 M7 => some (r3 + r6, M7)))))))
  refine x_aload_n C (k_dg dt_X5_tells_0 0 0 (.aload_n 2) 1 rfl) 2 rfl ?_
  refine x_bipush C (v := 31) (k_dg dt_X5_tells_0 1 1 (.bipush 31) 2 rfl) (by decide) ?_
  refine x_callV C (a := 74) (kd := 7) (vs := [Value.int 31]) (rest := []) rfl rfl (by decide) (fun r hr => by cases hr; rfl) (c_X9_begin C.2.2.2.2.2.2.2.2.2 G.2.1 31 M) cy_X9_begin lk_RX5_30 im_X9_begin se_X9_begin (by decide) (by decide) (by decide) (by decide) rfl rfl (Nat.le_of_ble_eq_true rfl) (k_dg dt_X5_tells_0 2 3 (.invokevirtual 30) 3 rfl) (fun r1 M2 => ?_)
  show Sm Z G _ _ _ _ [(0, k_ra Z a0), (1, Value.int p1), (2, k_ra Z 74)] [] _ _
  refine x_aload_n C (k_dg dt_X5_tells_0 3 6 (.aload_n 0) 1 rfl) 0 rfl ?_
  refine x_iload_n C (k_dg dt_X5_tells_0 4 7 (.iload_n 1) 1 rfl) 1 rfl ?_
  refine x_aload_n C (k_dg dt_X5_tells_0 5 8 (.aload_n 2) 1 rfl) 2 rfl ?_
  refine x_isRl (a := a0) (fun ha hlt => ?_)
  refine x_callSU C (x := ⟨"WheelCity$Rule", "tells", "(ILWheelCity$Trace;)I"⟩) (a := a0) (vs := [Value.int p1, k_ra Z 74]) (rest := []) ha hlt (c_X6_tells C.2.2.2.2.2.2.2.2.2 G.2.1 a0 p1 M2) cy_X6_tells ⟨rfl, rfl⟩ su_RX5_45.1 su_RX5_45.2.1 su_RX5_45.2.2.1 su_RX5_45.2.2.2 (by decide) im_X6_tells (by decide) (by decide) (by decide) (by decide) rfl rfl (Nat.le_of_ble_eq_true rfl) (k_dg dt_X5_tells_0 6 9 (.invokespecial 45) 3 rfl) (fun r3 M4 => ?_)
  show Sm Z G _ _ _ _ [(0, k_ra Z a0), (1, Value.int p1), (2, k_ra Z 74)] [Value.int r3] _ _
  refine x_aload_n C (k_dg dt_X5_tells_0 7 12 (.aload_n 0) 1 rfl) 0 rfl ?_
  refine x_aload_n C (k_dg dt_X5_tells_0 8 13 (.aload_n 0) 1 rfl) 0 rfl ?_
  refine x_getRl C (a := a0) (j := 1) (by decide) fl_RX5_48 (k_dg dt_X5_tells_0 9 14 (.getfield 48) 3 rfl) (fun v5 => ?_)
  refine x_aload_n C (k_dg dt_X5_tells_0 10 17 (.aload_n 2) 1 rfl) 2 rfl ?_
  refine x_vd_Near_shares C (a := a0) (rest := [Value.int r3]) vl_RX5_51 (by decide) (by decide) (by decide) rfl (Nat.le_of_ble_eq_true rfl) (k_dg dt_X5_tells_0 11 18 (.invokevirtual 51) 3 rfl) (fun r6 M7 => ?_)
  show Sm Z G _ _ _ _ [(0, k_ra Z a0), (1, Value.int p1), (2, k_ra Z 74)] [Value.int r6, Value.int r3] _ _
  refine x_iadd C (k_dg dt_X5_tells_0 12 21 (.iadd) 1 rfl) ?_
  exact x_iret C (by decide) (by decide) (k_dg dt_X5_tells_0 13 22 (.ireturn) 1 rfl)
theorem c_X5_tells {Z : k_Z} (hg : k_Gd Z) (l : Launch) (a0 : Nat) (p1 : Int32) (M : k_M) : Con true Z l yX5_tells cX5_tells 3 (some .int) 7 0 0 emI [k_ra Z a0, Value.int p1, k_ra Z 74] M (f_X5_tells a0 p1 M) := k_con hg (by decide) (Nat.le_of_ble_eq_true rfl) (fun G hl C => m_X5_tells_0 C p1 M)
theorem dt_X8_tells_0 : k_dec cX8_tells [(0, .aload_n 2, 1), (1, .bipush 61, 2), (3, .invokevirtual 17, 3), (6, .aload_n 0, 1), (7, .iload_n 1, 1), (8, .aload_n 2, 1), (9, .invokespecial 36, 3), (12, .iconst 2, 1), (13, .imul, 1), (14, .ireturn, 1)] = true := by decide +kernel
def f_X8_tells (a0 : Nat) (p1 : Int32) (M : k_M) : Option (Int32 × k_M) := bd (f_X9_begin 61 M) (fun r1 M2 => isRl M2 a0 (bd (f_X6_tells a0 p1 M2) (fun r3 M4 => some (r3 * 2, M4))))
theorem m_X8_tells_0 {Z : k_Z} {G : k_G} {a0 : Nat} (C : k_C Z G RX8 cX8_tells (true, 3, 7, 0, 0) (some .int) "tells") (p1 : Int32) (M : k_M) : Sm Z G emI (true, 3, 7, 0, 0) (0, 0) 0 [(0, k_ra Z a0), (1, Value.int p1), (2, k_ra Z 74)] [] M (f_X8_tells a0 p1 M) := by
  show Sm Z G emI _ _ _ _ _ _ (bd (f_X9_begin 61 M) (fun r1 M2 => isRl M2 a0 (bd (f_X6_tells a0 p1 M2) (fun r3 M4 => some (r3 * 2, M4)))))
  refine x_aload_n C (k_dg dt_X8_tells_0 0 0 (.aload_n 2) 1 rfl) 2 rfl ?_
  refine x_bipush C (v := 61) (k_dg dt_X8_tells_0 1 1 (.bipush 61) 2 rfl) (by decide) ?_
  refine x_callV C (a := 74) (kd := 7) (vs := [Value.int 61]) (rest := []) rfl rfl (by decide) (fun r hr => by cases hr; rfl) (c_X9_begin C.2.2.2.2.2.2.2.2.2 G.2.1 61 M) cy_X9_begin lk_RX8_17 im_X9_begin se_X9_begin (by decide) (by decide) (by decide) (by decide) rfl rfl (Nat.le_of_ble_eq_true rfl) (k_dg dt_X8_tells_0 2 3 (.invokevirtual 17) 3 rfl) (fun r1 M2 => ?_)
  show Sm Z G _ _ _ _ [(0, k_ra Z a0), (1, Value.int p1), (2, k_ra Z 74)] [] _ _
  refine x_aload_n C (k_dg dt_X8_tells_0 3 6 (.aload_n 0) 1 rfl) 0 rfl ?_
  refine x_iload_n C (k_dg dt_X8_tells_0 4 7 (.iload_n 1) 1 rfl) 1 rfl ?_
  refine x_aload_n C (k_dg dt_X8_tells_0 5 8 (.aload_n 2) 1 rfl) 2 rfl ?_
  refine x_isRl (a := a0) (fun ha hlt => ?_)
  refine x_callSU C (x := ⟨"WheelCity$Loop", "tells", "(ILWheelCity$Trace;)I"⟩) (a := a0) (vs := [Value.int p1, k_ra Z 74]) (rest := []) ha hlt (c_X6_tells C.2.2.2.2.2.2.2.2.2 G.2.1 a0 p1 M2) cy_X6_tells ⟨rfl, rfl⟩ su_RX8_36.1 su_RX8_36.2.1 su_RX8_36.2.2.1 su_RX8_36.2.2.2 (by decide) im_X6_tells (by decide) (by decide) (by decide) (by decide) rfl rfl (Nat.le_of_ble_eq_true rfl) (k_dg dt_X8_tells_0 6 9 (.invokespecial 36) 3 rfl) (fun r3 M4 => ?_)
  show Sm Z G _ _ _ _ [(0, k_ra Z a0), (1, Value.int p1), (2, k_ra Z 74)] [Value.int r3] _ _
  refine x_iconst C (v := 2) (k_dg dt_X8_tells_0 7 12 (.iconst 2) 1 rfl) (by decide) ?_
  refine x_imul C (k_dg dt_X8_tells_0 8 13 (.imul) 1 rfl) ?_
  exact x_iret C (by decide) (by decide) (k_dg dt_X8_tells_0 9 14 (.ireturn) 1 rfl)
theorem c_X8_tells {Z : k_Z} (hg : k_Gd Z) (l : Launch) (a0 : Nat) (p1 : Int32) (M : k_M) : Con true Z l yX8_tells cX8_tells 3 (some .int) 7 0 0 emI [k_ra Z a0, Value.int p1, k_ra Z 74] M (f_X8_tells a0 p1 M) := k_con hg (by decide) (Nat.le_of_ble_eq_true rfl) (fun G hl C => m_X8_tells_0 C p1 M)
def vd_Rule_tells (a : Nat) (p1 : Int32) (M : k_M) : Option (Int32 × k_M) := isRl M a (if k_tag (M.1 a 3) = 1 then f_X6_tells a p1 M else if k_tag (M.1 a 3) = 4 then f_X5_tells a p1 M else if k_tag (M.1 a 3) = 3 then f_X6_tells a p1 M else if k_tag (M.1 a 3) = 0 then f_X5_tells a p1 M else f_X8_tells a p1 M)
theorem x_vd_Rule_tells {Z : k_Z} {G : k_G} {ρ : Type} {em : ρ → Option Value} {F2 : Nat × Nat × Nat × Nat} {K : Nat × Nat} {pc : Nat} {lv : List (Nat × Value)} {st rest : List Value} {M : k_M} {own : String} {cc : ByteArray} {ret : Option FieldType} {nm : String} (C : k_C Z G own cc (true, F2) ret nm) {idx a : Nat} {p1 : Int32} {k : Int32 → k_M → Option (ρ × k_M)} (hl : Cond.methodLink own idx (⟨"WheelCity$Rule", "tells", "(ILWheelCity$Trace;)I"⟩ : MethodName) ∈ lw_tbl) (hd : 7 + 1 ≤ F2.2.1) (h1 : K.1 ≤ F2.2.2.1) (h2 : K.2 ≤ F2.2.2.2) (hs : st = [Value.int p1, k_ra Z 74].reverse ++ k_ra Z a :: rest) (hr : (rest.map fun v => v.category).sum ≤ 8) (hdg : decode cc pc = .ok (.invokevirtual idx, 3)) (kk : ∀ (r : Int32) (M1 : k_M), Sm Z G em (true, F2) K (pc + 3) lv (.int r :: rest) M1 (k r M1)) : Sm Z G em (true, F2) K pc lv st M (bd (vd_Rule_tells a p1 M) k) := by
  unfold vd_Rule_tells isRl
  by_cases hc : 105 ≤ a ∧ a < M.2.2.2
  · rw [if_pos hc]
    by_cases ht1 : k_tag (M.1 a 3) = 1
    · rw [if_pos ht1]
      exact x_callD C (r := (RX2, TX2, 3)) (x := (⟨"WheelCity$Rule", "tells", "(ILWheelCity$Trace;)I"⟩ : MethodName)) (y := yX6_tells) (owner := "WheelCity$Rule") (vs := [Value.int p1, k_ra Z 74]) (rest := rest) hc.1 hc.2 (by rw [ht1]; rfl) (c_X6_tells C.2.2.2.2.2.2.2.2.2 G.2.1 a p1 M) cy_X6_tells hl (List.mem_of_getElem? (i := 1053) (by decide +kernel)) (k_decl C (List.mem_of_getElem? (i := 1071) (by decide +kernel))) ⟨by decide +kernel, by decide +kernel⟩ rfl (List.mem_of_getElem? (i := 1063) (by decide +kernel)) im_X6_tells (Nat.le_trans (by decide) hd) (by decide) h1 h2 rfl hs hr hdg (fun r M1 => kk r M1)
    · rw [if_neg ht1]
      by_cases ht4 : k_tag (M.1 a 3) = 4
      · rw [if_pos ht4]
        exact x_callD C (r := (RX5, TX5, 3)) (x := (⟨"WheelCity$Rule", "tells", "(ILWheelCity$Trace;)I"⟩ : MethodName)) (y := yX5_tells) (owner := "WheelCity$Rule") (vs := [Value.int p1, k_ra Z 74]) (rest := rest) hc.1 hc.2 (by rw [ht4]; rfl) (c_X5_tells C.2.2.2.2.2.2.2.2.2 G.2.1 a p1 M) cy_X5_tells hl (List.mem_of_getElem? (i := 1053) (by decide +kernel)) (k_decl C (List.mem_of_getElem? (i := 1071) (by decide +kernel))) ⟨by decide +kernel, by decide +kernel⟩ rfl (List.mem_of_getElem? (i := 1065) (by decide +kernel)) im_X5_tells (Nat.le_trans (by decide) hd) (by decide) h1 h2 rfl hs hr hdg (fun r M1 => kk r M1)
      · rw [if_neg ht4]
        by_cases ht3 : k_tag (M.1 a 3) = 3
        · rw [if_pos ht3]
          exact x_callD C (r := (RX4, TX4, 3)) (x := (⟨"WheelCity$Rule", "tells", "(ILWheelCity$Trace;)I"⟩ : MethodName)) (y := yX6_tells) (owner := "WheelCity$Rule") (vs := [Value.int p1, k_ra Z 74]) (rest := rest) hc.1 hc.2 (by rw [ht3]; rfl) (c_X6_tells C.2.2.2.2.2.2.2.2.2 G.2.1 a p1 M) cy_X6_tells hl (List.mem_of_getElem? (i := 1053) (by decide +kernel)) (k_decl C (List.mem_of_getElem? (i := 1071) (by decide +kernel))) ⟨by decide +kernel, by decide +kernel⟩ rfl (List.mem_of_getElem? (i := 1064) (by decide +kernel)) im_X6_tells (Nat.le_trans (by decide) hd) (by decide) h1 h2 rfl hs hr hdg (fun r M1 => kk r M1)
        · rw [if_neg ht3]
          by_cases ht0 : k_tag (M.1 a 3) = 0
          · rw [if_pos ht0]
            exact x_callD C (r := (RX1, TX1, 3)) (x := (⟨"WheelCity$Rule", "tells", "(ILWheelCity$Trace;)I"⟩ : MethodName)) (y := yX5_tells) (owner := "WheelCity$Rule") (vs := [Value.int p1, k_ra Z 74]) (rest := rest) hc.1 hc.2 (by rw [ht0]; rfl) (c_X5_tells C.2.2.2.2.2.2.2.2.2 G.2.1 a p1 M) cy_X5_tells hl (List.mem_of_getElem? (i := 1053) (by decide +kernel)) (k_decl C (List.mem_of_getElem? (i := 1071) (by decide +kernel))) ⟨by decide +kernel, by decide +kernel⟩ rfl (List.mem_of_getElem? (i := 1054) (by decide +kernel)) im_X5_tells (Nat.le_trans (by decide) hd) (by decide) h1 h2 rfl hs hr hdg (fun r M1 => kk r M1)
          · rw [if_neg ht0]
            exact x_callD C (r := (RX8, TX8, 3)) (x := (⟨"WheelCity$Rule", "tells", "(ILWheelCity$Trace;)I"⟩ : MethodName)) (y := yX8_tells) (owner := "WheelCity$Rule") (vs := [Value.int p1, k_ra Z 74]) (rest := rest) hc.1 hc.2 (by rcases k_tags (M.1 a 3) with h | h | h | h | h; exact absurd h ht1; exact absurd h ht4; exact absurd h ht3; exact absurd h ht0; rw [h]; rfl) (c_X8_tells C.2.2.2.2.2.2.2.2.2 G.2.1 a p1 M) cy_X8_tells hl (List.mem_of_getElem? (i := 1053) (by decide +kernel)) (k_decl C (List.mem_of_getElem? (i := 1071) (by decide +kernel))) ⟨by decide +kernel, by decide +kernel⟩ rfl (List.mem_of_getElem? (i := 1066) (by decide +kernel)) im_X8_tells (Nat.le_trans (by decide) hd) (by decide) h1 h2 rfl hs hr hdg (fun r M1 => kk r M1)
  · rw [if_neg hc]
    exact x_none
theorem dt_X6_isOf_0 : k_dec cX6_isOf [(0, .iload_n 1, 1), (1, .tableswitch 66 0 5 #[39, 41, 46, 51, 56, 61], 39), (40, .iconst 1, 1), (41, .ireturn, 1), (42, .aload_n 0, 1), (43, .instanceof 19, 3), (46, .ireturn, 1), (47, .aload_n 0, 1), (48, .instanceof 21, 3), (51, .ireturn, 1), (52, .aload_n 0, 1), (53, .instanceof 23, 3), (56, .ireturn, 1), (57, .aload_n 0, 1), (58, .instanceof 25, 3), (61, .ireturn, 1), (62, .aload_n 0, 1), (63, .instanceof 27, 3), (66, .ireturn, 1), (67, .iconst 0, 1), (68, .ireturn, 1)] = true := by decide +kernel
def f_X6_isOf (a0 : Nat) (p1 : Int32) (M : k_M) : Option (Int32 × k_M) := tsw p1 0 6 (fun i_ => if i_ = 0 then some (1, M) else if i_ = 1 then insR M a0 1 (fun v1 => ckZ v1 (some (v1, M))) else if i_ = 2 then insR M a0 4 (fun v3 => ckZ v3 (some (v3, M))) else if i_ = 3 then insR M a0 3 (fun v5 => ckZ v5 (some (v5, M))) else if i_ = 4 then insR M a0 0 (fun v7 => ckZ v7 (some (v7, M))) else if i_ = 5 then insR M a0 6 (fun v9 => ckZ v9 (some (v9, M))) else some (0, M)) (some (0, M))
theorem m_X6_isOf_0 {Z : k_Z} {G : k_G} {a0 : Nat} (C : k_C Z G RX6 cX6_isOf (true, 2, 1, 0, 0) (some .boolean) "isOf") (p1 : Int32) (M : k_M) : Sm Z G emI (true, 2, 1, 0, 0) (0, 0) 0 [(0, k_ra Z a0), (1, Value.int p1)] [] M (f_X6_isOf a0 p1 M) := by
  show Sm Z G emI _ _ _ _ _ _ (tsw p1 0 6 (fun i_ => if i_ = 0 then some (1, M) else if i_ = 1 then insR M a0 1 (fun v1 => ckZ v1 (some (v1, M))) else if i_ = 2 then insR M a0 4 (fun v3 => ckZ v3 (some (v3, M))) else if i_ = 3 then insR M a0 3 (fun v5 => ckZ v5 (some (v5, M))) else if i_ = 4 then insR M a0 0 (fun v7 => ckZ v7 (some (v7, M))) else if i_ = 5 then insR M a0 6 (fun v9 => ckZ v9 (some (v9, M))) else some (0, M)) (some (0, M)))
  refine x_iload_n C (k_dg dt_X6_isOf_0 0 0 (.iload_n 1) 1 rfl) 1 rfl ?_
  refine x_tsw C (n := 6) (tgt := 67) (k_dg dt_X6_isOf_0 1 1 (.tableswitch 66 0 5 #[39, 41, 46, 51, 56, 61]) 39 rfl) (by decide) (by decide) (fun i_ => [40, 42, 47, 52, 57, 62].getD i_ 0) (by decide) (fun i_ hi_ _ => ?_) ?_
  · match i_, hi_ with
    | 0, _ =>
      show Sm Z G emI _ _ 40 _ _ _ (some (1, M))
      refine x_iconst C (v := 1) (k_dg dt_X6_isOf_0 2 40 (.iconst 1) 1 rfl) (by decide) ?_
      exact x_zret C (by decide) (by decide) rfl (k_dg dt_X6_isOf_0 3 41 (.ireturn) 1 rfl)
    | 1, _ =>
      show Sm Z G emI _ _ 42 _ _ _ (insR M a0 1 (fun v1 => ckZ v1 (some (v1, M))))
      refine x_aload_n C (k_dg dt_X6_isOf_0 4 42 (.aload_n 0) 1 rfl) 0 rfl ?_
      refine x_inst C (a := a0) 1 "WheelCity$Camp" (by decide) cl_RX6_19 (k_dg dt_X6_isOf_0 5 43 (.instanceof 19) 3 rfl) (fun v1 => ?_)
      refine x_ckZ (fun h2 => ?_)
      exact x_zret C (by decide) (by decide) (k_nz h2) (k_dg dt_X6_isOf_0 6 46 (.ireturn) 1 rfl)
    | 2, _ =>
      show Sm Z G emI _ _ 47 _ _ _ (insR M a0 4 (fun v3 => ckZ v3 (some (v3, M))))
      refine x_aload_n C (k_dg dt_X6_isOf_0 7 47 (.aload_n 0) 1 rfl) 0 rfl ?_
      refine x_inst C (a := a0) 4 "WheelCity$Near" (by decide) cl_RX6_21 (k_dg dt_X6_isOf_0 8 48 (.instanceof 21) 3 rfl) (fun v3 => ?_)
      refine x_ckZ (fun h4 => ?_)
      exact x_zret C (by decide) (by decide) (k_nz h4) (k_dg dt_X6_isOf_0 9 51 (.ireturn) 1 rfl)
    | 3, _ =>
      show Sm Z G emI _ _ 52 _ _ _ (insR M a0 3 (fun v5 => ckZ v5 (some (v5, M))))
      refine x_aload_n C (k_dg dt_X6_isOf_0 10 52 (.aload_n 0) 1 rfl) 0 rfl ?_
      refine x_inst C (a := a0) 3 "WheelCity$Loop" (by decide) cl_RX6_23 (k_dg dt_X6_isOf_0 11 53 (.instanceof 23) 3 rfl) (fun v5 => ?_)
      refine x_ckZ (fun h6 => ?_)
      exact x_zret C (by decide) (by decide) (k_nz h6) (k_dg dt_X6_isOf_0 12 56 (.ireturn) 1 rfl)
    | 4, _ =>
      show Sm Z G emI _ _ 57 _ _ _ (insR M a0 0 (fun v7 => ckZ v7 (some (v7, M))))
      refine x_aload_n C (k_dg dt_X6_isOf_0 13 57 (.aload_n 0) 1 rfl) 0 rfl ?_
      refine x_inst C (a := a0) 0 "WheelCity$Best" (by decide) cl_RX6_25 (k_dg dt_X6_isOf_0 14 58 (.instanceof 25) 3 rfl) (fun v7 => ?_)
      refine x_ckZ (fun h8 => ?_)
      exact x_zret C (by decide) (by decide) (k_nz h8) (k_dg dt_X6_isOf_0 15 61 (.ireturn) 1 rfl)
    | 5, _ =>
      show Sm Z G emI _ _ 62 _ _ _ (insR M a0 6 (fun v9 => ckZ v9 (some (v9, M))))
      refine x_aload_n C (k_dg dt_X6_isOf_0 16 62 (.aload_n 0) 1 rfl) 0 rfl ?_
      refine x_inst C (a := a0) 6 "WheelCity$Told" (by decide) cl_RX6_27 (k_dg dt_X6_isOf_0 17 63 (.instanceof 27) 3 rfl) (fun v9 => ?_)
      refine x_ckZ (fun h10 => ?_)
      exact x_zret C (by decide) (by decide) (k_nz h10) (k_dg dt_X6_isOf_0 18 66 (.ireturn) 1 rfl)
    | k + 6, h => exact absurd h (by omega)
  · refine x_iconst C (v := 0) (k_dg dt_X6_isOf_0 19 67 (.iconst 0) 1 rfl) (by decide) ?_
    exact x_zret C (by decide) (by decide) rfl (k_dg dt_X6_isOf_0 20 68 (.ireturn) 1 rfl)
theorem c_X6_isOf {Z : k_Z} (hg : k_Gd Z) (l : Launch) (a0 : Nat) (p1 : Int32) (M : k_M) : Con true Z l yX6_isOf cX6_isOf 2 (some .boolean) 1 0 0 emI [k_ra Z a0, Value.int p1] M (f_X6_isOf a0 p1 M) := k_con hg (by decide) (Nat.le_of_ble_eq_true rfl) (fun G hl C => m_X6_isOf_0 C p1 M)
def vd_Rule_isOf (a : Nat) (p1 : Int32) (M : k_M) : Option (Int32 × k_M) := isRl M a (if k_tag (M.1 a 3) = 1 then f_X6_isOf a p1 M else if k_tag (M.1 a 3) = 4 then f_X6_isOf a p1 M else if k_tag (M.1 a 3) = 3 then f_X6_isOf a p1 M else if k_tag (M.1 a 3) = 0 then f_X6_isOf a p1 M else f_X6_isOf a p1 M)
theorem x_vd_Rule_isOf {Z : k_Z} {G : k_G} {ρ : Type} {em : ρ → Option Value} {F2 : Nat × Nat × Nat × Nat} {K : Nat × Nat} {pc : Nat} {lv : List (Nat × Value)} {st rest : List Value} {M : k_M} {own : String} {cc : ByteArray} {ret : Option FieldType} {nm : String} (C : k_C Z G own cc (true, F2) ret nm) {idx a : Nat} {p1 : Int32} {k : Int32 → k_M → Option (ρ × k_M)} (hl : Cond.methodLink own idx (⟨"WheelCity$Rule", "isOf", "(I)Z"⟩ : MethodName) ∈ lw_tbl) (hd : 1 + 1 ≤ F2.2.1) (h1 : K.1 ≤ F2.2.2.1) (h2 : K.2 ≤ F2.2.2.2) (hs : st = [Value.int p1].reverse ++ k_ra Z a :: rest) (hr : (rest.map fun v => v.category).sum ≤ 8) (hdg : decode cc pc = .ok (.invokevirtual idx, 3)) (kk : ∀ (r : Int32) (M1 : k_M), Sm Z G em (true, F2) K (pc + 3) lv (.int r :: rest) M1 (k r M1)) : Sm Z G em (true, F2) K pc lv st M (bd (vd_Rule_isOf a p1 M) k) := by
  unfold vd_Rule_isOf isRl
  by_cases hc : 105 ≤ a ∧ a < M.2.2.2
  · rw [if_pos hc]
    by_cases ht1 : k_tag (M.1 a 3) = 1
    · rw [if_pos ht1]
      exact x_callD C (r := (RX2, TX2, 3)) (x := (⟨"WheelCity$Rule", "isOf", "(I)Z"⟩ : MethodName)) (y := yX6_isOf) (owner := "WheelCity$Rule") (vs := [Value.int p1]) (rest := rest) hc.1 hc.2 (by rw [ht1]; rfl) (c_X6_isOf C.2.2.2.2.2.2.2.2.2 G.2.1 a p1 M) cy_X6_isOf hl (List.mem_of_getElem? (i := 969) (by decide +kernel)) (k_declI C im_X6_isOf cy_X6_isOf.1) ⟨by decide +kernel, by decide +kernel⟩ rfl (List.mem_of_getElem? (i := 971) (by decide +kernel)) im_X6_isOf (Nat.le_trans (by decide) hd) (by decide) h1 h2 rfl hs hr hdg (fun r M1 => kk r M1)
    · rw [if_neg ht1]
      by_cases ht4 : k_tag (M.1 a 3) = 4
      · rw [if_pos ht4]
        exact x_callD C (r := (RX5, TX5, 3)) (x := (⟨"WheelCity$Rule", "isOf", "(I)Z"⟩ : MethodName)) (y := yX6_isOf) (owner := "WheelCity$Rule") (vs := [Value.int p1]) (rest := rest) hc.1 hc.2 (by rw [ht4]; rfl) (c_X6_isOf C.2.2.2.2.2.2.2.2.2 G.2.1 a p1 M) cy_X6_isOf hl (List.mem_of_getElem? (i := 969) (by decide +kernel)) (k_declI C im_X6_isOf cy_X6_isOf.1) ⟨by decide +kernel, by decide +kernel⟩ rfl (List.mem_of_getElem? (i := 973) (by decide +kernel)) im_X6_isOf (Nat.le_trans (by decide) hd) (by decide) h1 h2 rfl hs hr hdg (fun r M1 => kk r M1)
      · rw [if_neg ht4]
        by_cases ht3 : k_tag (M.1 a 3) = 3
        · rw [if_pos ht3]
          exact x_callD C (r := (RX4, TX4, 3)) (x := (⟨"WheelCity$Rule", "isOf", "(I)Z"⟩ : MethodName)) (y := yX6_isOf) (owner := "WheelCity$Rule") (vs := [Value.int p1]) (rest := rest) hc.1 hc.2 (by rw [ht3]; rfl) (c_X6_isOf C.2.2.2.2.2.2.2.2.2 G.2.1 a p1 M) cy_X6_isOf hl (List.mem_of_getElem? (i := 969) (by decide +kernel)) (k_declI C im_X6_isOf cy_X6_isOf.1) ⟨by decide +kernel, by decide +kernel⟩ rfl (List.mem_of_getElem? (i := 972) (by decide +kernel)) im_X6_isOf (Nat.le_trans (by decide) hd) (by decide) h1 h2 rfl hs hr hdg (fun r M1 => kk r M1)
        · rw [if_neg ht3]
          by_cases ht0 : k_tag (M.1 a 3) = 0
          · rw [if_pos ht0]
            exact x_callD C (r := (RX1, TX1, 3)) (x := (⟨"WheelCity$Rule", "isOf", "(I)Z"⟩ : MethodName)) (y := yX6_isOf) (owner := "WheelCity$Rule") (vs := [Value.int p1]) (rest := rest) hc.1 hc.2 (by rw [ht0]; rfl) (c_X6_isOf C.2.2.2.2.2.2.2.2.2 G.2.1 a p1 M) cy_X6_isOf hl (List.mem_of_getElem? (i := 969) (by decide +kernel)) (k_declI C im_X6_isOf cy_X6_isOf.1) ⟨by decide +kernel, by decide +kernel⟩ rfl (List.mem_of_getElem? (i := 970) (by decide +kernel)) im_X6_isOf (Nat.le_trans (by decide) hd) (by decide) h1 h2 rfl hs hr hdg (fun r M1 => kk r M1)
          · rw [if_neg ht0]
            exact x_callD C (r := (RX8, TX8, 3)) (x := (⟨"WheelCity$Rule", "isOf", "(I)Z"⟩ : MethodName)) (y := yX6_isOf) (owner := "WheelCity$Rule") (vs := [Value.int p1]) (rest := rest) hc.1 hc.2 (by rcases k_tags (M.1 a 3) with h | h | h | h | h; exact absurd h ht1; exact absurd h ht4; exact absurd h ht3; exact absurd h ht0; rw [h]; rfl) (c_X6_isOf C.2.2.2.2.2.2.2.2.2 G.2.1 a p1 M) cy_X6_isOf hl (List.mem_of_getElem? (i := 969) (by decide +kernel)) (k_declI C im_X6_isOf cy_X6_isOf.1) ⟨by decide +kernel, by decide +kernel⟩ rfl (List.mem_of_getElem? (i := 974) (by decide +kernel)) im_X6_isOf (Nat.le_trans (by decide) hd) (by decide) h1 h2 rfl hs hr hdg (fun r M1 => kk r M1)
  · rw [if_neg hc]
    exact x_none
theorem dt_X2_choose_0 : k_dec cX2_choose [(0, .iconst 0, 1), (1, .ireturn, 1)] = true := by decide +kernel
def f_X2_choose (a0 : Nat) (v : Nat) (M : k_M) : Option (Int32 × k_M) := some (0, M)
theorem m_X2_choose_0 {Z : k_Z} {G : k_G} {a0 : Nat} {v : Nat} (C : k_C Z G RX2 cX2_choose (true, 2, 1, 0, 0) (some .int) "choose") (hv : isW v) (M : k_M) : Sm Z G emI (true, 2, 1, 0, 0) (0, 0) 0 [(0, k_ra Z a0), (1, k_ra Z v)] [] M (f_X2_choose a0 v M) := by
  show Sm Z G emI _ _ _ _ _ _ (some (0, M))
  refine x_iconst C (v := 0) (k_dg dt_X2_choose_0 0 0 (.iconst 0) 1 rfl) (by decide) ?_
  exact x_iret C (by decide) (by decide) (k_dg dt_X2_choose_0 1 1 (.ireturn) 1 rfl)
theorem c_X2_choose {Z : k_Z} (hg : k_Gd Z) (l : Launch) (a0 : Nat) (v : Nat) (M : k_M) (hv : isW v) : Con true Z l yX2_choose cX2_choose 2 (some .int) 1 0 0 emI [k_ra Z a0, k_ra Z v] M (f_X2_choose a0 v M) := k_con hg (by decide) (Nat.le_of_ble_eq_true rfl) (fun G hl C => m_X2_choose_0 C hv M)
theorem dt_X5_choose_0 : k_dec cX5_choose [(0, .aload_n 1, 1), (1, .getfield 7, 3), (4, .aload_n 1, 1), (5, .invokevirtual 13, 3), (8, .aload_n 1, 1), (9, .getfield 17, 3), (12, .invokevirtual 21, 3), (15, .istore_n 2, 1), (16, .iload_n 2, 1), (17, .ifCond .lt 11, 3), (20, .iload_n 2, 1), (21, .aload_n 1, 1), (22, .getfield 17, 3), (25, .if_icmp .ne 5, 3), (28, .iconst 0, 1), (29, .ireturn, 1), (30, .aload_n 1, 1), (31, .getfield 7, 3), (34, .iload_n 2, 1), (35, .aload_n 1, 1), (36, .getfield 17, 3), (39, .invokevirtual 27, 3), (42, .iconst 1, 1), (43, .iadd, 1), (44, .ireturn, 1)] = true := by decide +kernel
def f_X5_choose (a0 : Nat) (v : Nat) (M : k_M) : Option (Int32 × k_M) := bd (f_X10_leastShed v M) (fun r1 M2 => bd (f_X3_nearestFor v r1 (M2.1 v 4) M2) (fun r3 M4 => if r3 < 0 then some (0, M4) else if r3 = (M4.1 v 4) then some (0, M4) else bd (f_X3_wayTowards v r3 (M4.1 v 4) M4) (fun r5 M6 => some (r5 + 1, M6))))
theorem m_X5_choose_0 {Z : k_Z} {G : k_G} {a0 : Nat} {v : Nat} (C : k_C Z G RX5 cX5_choose (true, 3, 4, 0, 0) (some .int) "choose") (hv : isW v) (M : k_M) : Sm Z G emI (true, 3, 4, 0, 0) (0, 0) 0 [(0, k_ra Z a0), (1, k_ra Z v)] [] M (f_X5_choose a0 v M) := by
  show Sm Z G emI _ _ _ _ _ _ (bd (f_X10_leastShed v M) (fun r1 M2 => bd (f_X3_nearestFor v r1 (M2.1 v 4) M2) (fun r3 M4 => if r3 < 0 then some (0, M4) else if r3 = (M4.1 v 4) then some (0, M4) else bd (f_X3_wayTowards v r3 (M4.1 v 4) M4) (fun r5 M6 => some (r5 + 1, M6)))))
  refine x_aload_n C (k_dg dt_X5_choose_0 0 0 (.aload_n 1) 1 rfl) 1 rfl ?_
  refine x_getR C (a := v) (j := 0) (v + 1) rfl (kW 0 hv rfl) (by decide) fl_RX5_7 rfl rfl rfl (k_dg dt_X5_choose_0 1 1 (.getfield 7) 3 rfl) ?_
  refine x_aload_n C (k_dg dt_X5_choose_0 2 4 (.aload_n 1) 1 rfl) 1 rfl ?_
  refine x_callV C (a := v) (kd := 8) (vs := []) (rest := [k_ra Z (v + 1)]) rfl (kW 0 hv rfl) (by decide) (fun r hr => by cases hr; rfl) (c_X10_leastShed C.2.2.2.2.2.2.2.2.2 G.2.1 v M hv) cy_X10_leastShed lk_RX5_13 im_X10_leastShed se_X10_leastShed (by decide) (by decide) (by decide) (by decide) rfl rfl (Nat.le_of_ble_eq_true rfl) (k_dg dt_X5_choose_0 3 5 (.invokevirtual 13) 3 rfl) (fun r1 M2 => ?_)
  show Sm Z G _ _ _ _ [(0, k_ra Z a0), (1, k_ra Z v)] [Value.int r1, k_ra Z (v + 1)] _ _
  refine x_aload_n C (k_dg dt_X5_choose_0 4 8 (.aload_n 1) 1 rfl) 1 rfl ?_
  refine x_getI C (a := v) (j := 4) rfl (kW 0 hv rfl) (by decide) fl_RX5_17 rfl (k_dg dt_X5_choose_0 5 9 (.getfield 17) 3 rfl) ?_
  refine x_callV C (a := v + 1) (kd := 2) (vs := [Value.int r1, Value.int (M2.1 v 4)]) (rest := []) rfl (kW 1 hv rfl) (by decide) (fun r hr => by cases hr; rfl) (c_X3_nearestFor C.2.2.2.2.2.2.2.2.2 G.2.1 v r1 (M2.1 v 4) M2 hv) cy_X3_nearestFor lk_RX5_21 im_X3_nearestFor se_X3_nearestFor (by decide) (by decide) (by decide) (by decide) rfl rfl (Nat.le_of_ble_eq_true rfl) (k_dg dt_X5_choose_0 6 12 (.invokevirtual 21) 3 rfl) (fun r3 M4 => ?_)
  show Sm Z G _ _ _ _ [(0, k_ra Z a0), (1, k_ra Z v)] [Value.int r3] _ _
  refine x_istore_n C (lv' := [(2, Value.int r3), (0, k_ra Z a0), (1, k_ra Z v)]) (k_dg dt_X5_choose_0 7 15 (.istore_n 2) 1 rfl) (by decide) rfl ?_
  refine x_iload_n C (k_dg dt_X5_choose_0 8 16 (.iload_n 2) 1 rfl) 0 rfl ?_
  refine x_if_lt C (tgt := 28) (k_dg dt_X5_choose_0 9 17 (.ifCond .lt 11) 3 rfl) (by decide) (fun _ => ?_) (fun _ => ?_)
  · refine x_iconst C (v := 0) (k_dg dt_X5_choose_0 14 28 (.iconst 0) 1 rfl) (by decide) ?_
    exact x_iret C (by decide) (by decide) (k_dg dt_X5_choose_0 15 29 (.ireturn) 1 rfl)
  · refine x_iload_n C (k_dg dt_X5_choose_0 10 20 (.iload_n 2) 1 rfl) 0 rfl ?_
    refine x_aload_n C (k_dg dt_X5_choose_0 11 21 (.aload_n 1) 1 rfl) 2 rfl ?_
    refine x_getI C (a := v) (j := 4) rfl (kW 0 hv rfl) (by decide) fl_RX5_17 rfl (k_dg dt_X5_choose_0 12 22 (.getfield 17) 3 rfl) ?_
    refine x_icmp_ne C (tgt := 30) (k_dg dt_X5_choose_0 13 25 (.if_icmp .ne 5) 3 rfl) (by decide) (fun _ => ?_) (fun _ => ?_)
    · refine x_iconst C (v := 0) (k_dg dt_X5_choose_0 14 28 (.iconst 0) 1 rfl) (by decide) ?_
      exact x_iret C (by decide) (by decide) (k_dg dt_X5_choose_0 15 29 (.ireturn) 1 rfl)
    · refine x_aload_n C (k_dg dt_X5_choose_0 16 30 (.aload_n 1) 1 rfl) 2 rfl ?_
      refine x_getR C (a := v) (j := 0) (v + 1) rfl (kW 0 hv rfl) (by decide) fl_RX5_7 rfl rfl rfl (k_dg dt_X5_choose_0 17 31 (.getfield 7) 3 rfl) ?_
      refine x_iload_n C (k_dg dt_X5_choose_0 18 34 (.iload_n 2) 1 rfl) 0 rfl ?_
      refine x_aload_n C (k_dg dt_X5_choose_0 19 35 (.aload_n 1) 1 rfl) 2 rfl ?_
      refine x_getI C (a := v) (j := 4) rfl (kW 0 hv rfl) (by decide) fl_RX5_17 rfl (k_dg dt_X5_choose_0 20 36 (.getfield 17) 3 rfl) ?_
      refine x_callV C (a := v + 1) (kd := 2) (vs := [Value.int r3, Value.int (M4.1 v 4)]) (rest := []) rfl (kW 1 hv rfl) (by decide) (fun r hr => by cases hr; rfl) (c_X3_wayTowards C.2.2.2.2.2.2.2.2.2 G.2.1 v r3 (M4.1 v 4) M4 hv) cy_X3_wayTowards lk_RX5_27 im_X3_wayTowards se_X3_wayTowards (by decide) (by decide) (by decide) (by decide) rfl rfl (Nat.le_of_ble_eq_true rfl) (k_dg dt_X5_choose_0 21 39 (.invokevirtual 27) 3 rfl) (fun r5 M6 => ?_)
      show Sm Z G _ _ _ _ [(2, Value.int r3), (0, k_ra Z a0), (1, k_ra Z v)] [Value.int r5] _ _
      refine x_iconst C (v := 1) (k_dg dt_X5_choose_0 22 42 (.iconst 1) 1 rfl) (by decide) ?_
      refine x_iadd C (k_dg dt_X5_choose_0 23 43 (.iadd) 1 rfl) ?_
      exact x_iret C (by decide) (by decide) (k_dg dt_X5_choose_0 24 44 (.ireturn) 1 rfl)
theorem c_X5_choose {Z : k_Z} (hg : k_Gd Z) (l : Launch) (a0 : Nat) (v : Nat) (M : k_M) (hv : isW v) : Con true Z l yX5_choose cX5_choose 3 (some .int) 4 0 0 emI [k_ra Z a0, k_ra Z v] M (f_X5_choose a0 v M) := k_con hg (by decide) (Nat.le_of_ble_eq_true rfl) (fun G hl C => m_X5_choose_0 C hv M)
theorem dt_X4_choose_0 : k_dec cX4_choose [(0, .aload_n 0, 1), (1, .getfield 7, 3), (4, .aload_n 1, 1), (5, .getfield 13, 3), (8, .aload_n 0, 1), (9, .getfield 19, 3), (12, .iaload, 1), (13, .iconst 4, 1), (14, .irem, 1), (15, .iconst 4, 1), (16, .imul, 1), (17, .ishr, 1), (18, .bipush 15, 2), (20, .iand, 1), (21, .ireturn, 1)] = true := by decide +kernel
def f_X4_choose (a0 : Nat) (v : Nat) (M : k_M) : Option (Int32 × k_M) := gRl M a0 2 (fun v1 => gRl M a0 1 (fun v2 => rdI M (v + 19) 4 v2 (fun v3 => some ((v1 >>> (((v3 - v3 / 4 * 4) * 4) &&& 31)) &&& 15, M))))
theorem m_X4_choose_0 {Z : k_Z} {G : k_G} {a0 : Nat} {v : Nat} (C : k_C Z G RX4 cX4_choose (true, 2, 1, 0, 0) (some .int) "choose") (hv : isW v) (M : k_M) : Sm Z G emI (true, 2, 1, 0, 0) (0, 0) 0 [(0, k_ra Z a0), (1, k_ra Z v)] [] M (f_X4_choose a0 v M) := by
  show Sm Z G emI _ _ _ _ _ _ (gRl M a0 2 (fun v1 => gRl M a0 1 (fun v2 => rdI M (v + 19) 4 v2 (fun v3 => some ((v1 >>> (((v3 - v3 / 4 * 4) * 4) &&& 31)) &&& 15, M)))))
  refine x_aload_n C (k_dg dt_X4_choose_0 0 0 (.aload_n 0) 1 rfl) 0 rfl ?_
  refine x_getRl C (a := a0) (j := 2) (by decide) fl_RX4_7 (k_dg dt_X4_choose_0 1 1 (.getfield 7) 3 rfl) (fun v1 => ?_)
  refine x_aload_n C (k_dg dt_X4_choose_0 2 4 (.aload_n 1) 1 rfl) 1 rfl ?_
  refine x_getR C (a := v) (j := 9) (v + 19) rfl (kW 0 hv rfl) (by decide) fl_RX4_13 rfl rfl rfl (k_dg dt_X4_choose_0 3 5 (.getfield 13) 3 rfl) ?_
  refine x_aload_n C (k_dg dt_X4_choose_0 4 8 (.aload_n 0) 1 rfl) 0 rfl ?_
  refine x_getRl C (a := a0) (j := 1) (by decide) fl_RX4_19 (k_dg dt_X4_choose_0 5 9 (.getfield 19) 3 rfl) (fun v2 => ?_)
  refine x_iald C (a := v + 19) (n := 4) rfl (kW 19 hv rfl) (k_dg dt_X4_choose_0 6 12 (.iaload) 1 rfl) (fun v3 => ?_)
  refine x_iconst C (v := 4) (k_dg dt_X4_choose_0 7 13 (.iconst 4) 1 rfl) (by decide) ?_
  refine x_iremC C (k_dg dt_X4_choose_0 8 14 (.irem) 1 rfl) (by decide) ?_
  refine x_iconst C (v := 4) (k_dg dt_X4_choose_0 9 15 (.iconst 4) 1 rfl) (by decide) ?_
  refine x_imul C (k_dg dt_X4_choose_0 10 16 (.imul) 1 rfl) ?_
  refine x_ishr C (k_dg dt_X4_choose_0 11 17 (.ishr) 1 rfl) ?_
  refine x_bipush C (v := 15) (k_dg dt_X4_choose_0 12 18 (.bipush 15) 2 rfl) (by decide) ?_
  refine x_iand C (k_dg dt_X4_choose_0 13 20 (.iand) 1 rfl) ?_
  exact x_iret C (by decide) (by decide) (k_dg dt_X4_choose_0 14 21 (.ireturn) 1 rfl)
theorem c_X4_choose {Z : k_Z} (hg : k_Gd Z) (l : Launch) (a0 : Nat) (v : Nat) (M : k_M) (hv : isW v) : Con true Z l yX4_choose cX4_choose 2 (some .int) 1 0 0 emI [k_ra Z a0, k_ra Z v] M (f_X4_choose a0 v M) := k_con hg (by decide) (Nat.le_of_ble_eq_true rfl) (fun G hl C => m_X4_choose_0 C hv M)
theorem dt_X1_choose_0 : k_dec cX1_choose [(0, .aload_n 1, 1), (1, .aload_n 0, 1), (2, .getfield 9, 3), (5, .bipush 7, 2), (7, .irem, 1), (8, .invokestatic 15, 3), (11, .istore_n 2, 1), (12, .iload_n 2, 1), (13, .iconst (-1), 1), (14, .if_icmp .ne 11, 3), (17, .aload_n 0, 1), (18, .aload_n 1, 1), (19, .invokespecial 21, 3), (22, .goto 4, 3), (25, .iload_n 2, 1), (26, .ireturn, 1)] = true := by decide +kernel
def f_X1_choose (a0 : Nat) (v : Nat) (M : k_M) : Option (Int32 × k_M) := gRl M a0 2 (fun v1 => bd (f_X0_firstAct v (v1 - v1 / 7 * 7) M) (fun r2 M3 => if r2 = (-1) then isRl M3 a0 (bd (f_X5_choose a0 v M3) (fun r4 M5 => some (r4, M5))) else some (r2, M3)))
theorem m_X1_choose_0 {Z : k_Z} {G : k_G} {a0 : Nat} {v : Nat} (C : k_C Z G RX1 cX1_choose (true, 3, 22, 0, 0) (some .int) "choose") (hv : isW v) (M : k_M) : Sm Z G emI (true, 3, 22, 0, 0) (0, 0) 0 [(0, k_ra Z a0), (1, k_ra Z v)] [] M (f_X1_choose a0 v M) := by
  show Sm Z G emI _ _ _ _ _ _ (gRl M a0 2 (fun v1 => bd (f_X0_firstAct v (v1 - v1 / 7 * 7) M) (fun r2 M3 => if r2 = (-1) then isRl M3 a0 (bd (f_X5_choose a0 v M3) (fun r4 M5 => some (r4, M5))) else some (r2, M3))))
  refine x_aload_n C (k_dg dt_X1_choose_0 0 0 (.aload_n 1) 1 rfl) 1 rfl ?_
  refine x_aload_n C (k_dg dt_X1_choose_0 1 1 (.aload_n 0) 1 rfl) 0 rfl ?_
  refine x_getRl C (a := a0) (j := 2) (by decide) fl_RX1_9 (k_dg dt_X1_choose_0 2 2 (.getfield 9) 3 rfl) (fun v1 => ?_)
  refine x_bipush C (v := 7) (k_dg dt_X1_choose_0 3 5 (.bipush 7) 2 rfl) (by decide) ?_
  refine x_iremC C (k_dg dt_X1_choose_0 4 7 (.irem) 1 rfl) (by decide) ?_
  refine x_callS C (vs := [k_ra Z v, Value.int (v1 - v1 / 7 * 7)]) (rest := []) (c_X0_firstAct C.2.2.2.2.2.2.2.2.2 G.2.1 v (v1 - v1 / 7 * 7) M hv) cy_X0_firstAct lk_RX1_15 stt_X0_firstAct (by decide) (by decide) (by decide) (by decide) rfl rfl (Nat.le_of_ble_eq_true rfl) (k_dg dt_X1_choose_0 5 8 (.invokestatic 15) 3 rfl) (fun r2 M3 => ?_)
  show Sm Z G _ _ _ _ [(0, k_ra Z a0), (1, k_ra Z v)] [Value.int r2] _ _
  refine x_istore_n C (lv' := [(2, Value.int r2), (0, k_ra Z a0), (1, k_ra Z v)]) (k_dg dt_X1_choose_0 6 11 (.istore_n 2) 1 rfl) (by decide) rfl ?_
  refine x_iload_n C (k_dg dt_X1_choose_0 7 12 (.iload_n 2) 1 rfl) 0 rfl ?_
  refine x_iconst C (v := -1) (k_dg dt_X1_choose_0 8 13 (.iconst (-1)) 1 rfl) (by decide) ?_
  refine x_icmp_ne C (tgt := 25) (k_dg dt_X1_choose_0 9 14 (.if_icmp .ne 11) 3 rfl) (by decide) (fun _ => ?_) (fun _ => ?_)
  · refine x_aload_n C (k_dg dt_X1_choose_0 10 17 (.aload_n 0) 1 rfl) 1 rfl ?_
    refine x_aload_n C (k_dg dt_X1_choose_0 11 18 (.aload_n 1) 1 rfl) 2 rfl ?_
    refine x_isRl (a := a0) (fun ha hlt => ?_)
    refine x_callSU C (x := ⟨"WheelCity$Near", "choose", "(LWheelCity$World;)I"⟩) (a := a0) (vs := [k_ra Z v]) (rest := []) ha hlt (c_X5_choose C.2.2.2.2.2.2.2.2.2 G.2.1 a0 v M3 hv) cy_X5_choose ⟨rfl, rfl⟩ su_RX1_21.1 su_RX1_21.2.1 su_RX1_21.2.2.1 su_RX1_21.2.2.2 (by decide) im_X5_choose (by decide) (by decide) (by decide) (by decide) rfl rfl (Nat.le_of_ble_eq_true rfl) (k_dg dt_X1_choose_0 12 19 (.invokespecial 21) 3 rfl) (fun r4 M5 => ?_)
    show Sm Z G _ _ _ _ [(2, Value.int r2), (0, k_ra Z a0), (1, k_ra Z v)] [Value.int r4] _ _
    refine x_goto C (tgt := 26) (k_dg dt_X1_choose_0 13 22 (.goto 4) 3 rfl) (by decide) ?_
    exact x_iret C (by decide) (by decide) (k_dg dt_X1_choose_0 15 26 (.ireturn) 1 rfl)
  · refine x_iload_n C (k_dg dt_X1_choose_0 14 25 (.iload_n 2) 1 rfl) 0 rfl ?_
    exact x_iret C (by decide) (by decide) (k_dg dt_X1_choose_0 15 26 (.ireturn) 1 rfl)
theorem c_X1_choose {Z : k_Z} (hg : k_Gd Z) (l : Launch) (a0 : Nat) (v : Nat) (M : k_M) (hv : isW v) : Con true Z l yX1_choose cX1_choose 3 (some .int) 22 0 0 emI [k_ra Z a0, k_ra Z v] M (f_X1_choose a0 v M) := k_con hg (by decide) (Nat.le_of_ble_eq_true rfl) (fun G hl C => m_X1_choose_0 C hv M)
theorem dt_X8_choose_0 : k_dec cX8_choose [(0, .aload_n 0, 1), (1, .aload_n 1, 1), (2, .invokespecial 7, 3), (5, .istore_n 2, 1), (6, .aload_n 1, 1), (7, .iload_n 2, 1), (8, .invokevirtual 11, 3), (11, .ifCond .eq 7, 3), (14, .iload_n 2, 1), (15, .goto 4, 3), (18, .iconst 0, 1), (19, .ireturn, 1)] = true := by decide +kernel
def f_X8_choose (a0 : Nat) (v : Nat) (M : k_M) : Option (Int32 × k_M) := isRl M a0 (bd (f_X4_choose a0 v M) (fun r1 M2 => bd (f_X10_can v r1 M2) (fun r3 M4 => if r3 = 0 then some (0, M4) else some (r1, M4))))
theorem m_X8_choose_0 {Z : k_Z} {G : k_G} {a0 : Nat} {v : Nat} (C : k_C Z G RX8 cX8_choose (true, 3, 5, 0, 0) (some .int) "choose") (hv : isW v) (M : k_M) : Sm Z G emI (true, 3, 5, 0, 0) (0, 0) 0 [(0, k_ra Z a0), (1, k_ra Z v)] [] M (f_X8_choose a0 v M) := by
  show Sm Z G emI _ _ _ _ _ _ (isRl M a0 (bd (f_X4_choose a0 v M) (fun r1 M2 => bd (f_X10_can v r1 M2) (fun r3 M4 => if r3 = 0 then some (0, M4) else some (r1, M4)))))
  refine x_aload_n C (k_dg dt_X8_choose_0 0 0 (.aload_n 0) 1 rfl) 0 rfl ?_
  refine x_aload_n C (k_dg dt_X8_choose_0 1 1 (.aload_n 1) 1 rfl) 1 rfl ?_
  refine x_isRl (a := a0) (fun ha hlt => ?_)
  refine x_callSU C (x := ⟨"WheelCity$Loop", "choose", "(LWheelCity$World;)I"⟩) (a := a0) (vs := [k_ra Z v]) (rest := []) ha hlt (c_X4_choose C.2.2.2.2.2.2.2.2.2 G.2.1 a0 v M hv) cy_X4_choose ⟨rfl, rfl⟩ su_RX8_7.1 su_RX8_7.2.1 su_RX8_7.2.2.1 su_RX8_7.2.2.2 (by decide) im_X4_choose (by decide) (by decide) (by decide) (by decide) rfl rfl (Nat.le_of_ble_eq_true rfl) (k_dg dt_X8_choose_0 2 2 (.invokespecial 7) 3 rfl) (fun r1 M2 => ?_)
  show Sm Z G _ _ _ _ [(0, k_ra Z a0), (1, k_ra Z v)] [Value.int r1] _ _
  refine x_istore_n C (lv' := [(2, Value.int r1), (0, k_ra Z a0), (1, k_ra Z v)]) (k_dg dt_X8_choose_0 3 5 (.istore_n 2) 1 rfl) (by decide) rfl ?_
  refine x_aload_n C (k_dg dt_X8_choose_0 4 6 (.aload_n 1) 1 rfl) 2 rfl ?_
  refine x_iload_n C (k_dg dt_X8_choose_0 5 7 (.iload_n 2) 1 rfl) 0 rfl ?_
  refine x_callV C (a := v) (kd := 8) (vs := [Value.int r1]) (rest := []) rfl (kW 0 hv rfl) (by decide) (fun r hr => by cases hr; rfl) (c_X10_can C.2.2.2.2.2.2.2.2.2 G.2.1 v r1 M2 hv) cy_X10_can lk_RX8_11 im_X10_can se_X10_can (by decide) (by decide) (by decide) (by decide) rfl rfl (Nat.le_of_ble_eq_true rfl) (k_dg dt_X8_choose_0 6 8 (.invokevirtual 11) 3 rfl) (fun r3 M4 => ?_)
  show Sm Z G _ _ _ _ [(2, Value.int r1), (0, k_ra Z a0), (1, k_ra Z v)] [Value.int r3] _ _
  refine x_if_eq C (tgt := 18) (k_dg dt_X8_choose_0 7 11 (.ifCond .eq 7) 3 rfl) (by decide) (fun _ => ?_) (fun _ => ?_)
  · refine x_iconst C (v := 0) (k_dg dt_X8_choose_0 10 18 (.iconst 0) 1 rfl) (by decide) ?_
    exact x_iret C (by decide) (by decide) (k_dg dt_X8_choose_0 11 19 (.ireturn) 1 rfl)
  · refine x_iload_n C (k_dg dt_X8_choose_0 8 14 (.iload_n 2) 1 rfl) 0 rfl ?_
    refine x_goto C (tgt := 19) (k_dg dt_X8_choose_0 9 15 (.goto 4) 3 rfl) (by decide) ?_
    exact x_iret C (by decide) (by decide) (k_dg dt_X8_choose_0 11 19 (.ireturn) 1 rfl)
theorem c_X8_choose {Z : k_Z} (hg : k_Gd Z) (l : Launch) (a0 : Nat) (v : Nat) (M : k_M) (hv : isW v) : Con true Z l yX8_choose cX8_choose 3 (some .int) 5 0 0 emI [k_ra Z a0, k_ra Z v] M (f_X8_choose a0 v M) := k_con hg (by decide) (Nat.le_of_ble_eq_true rfl) (fun G hl C => m_X8_choose_0 C hv M)
def vd_Rule_choose (a : Nat) (v : Nat) (M : k_M) : Option (Int32 × k_M) := isRl M a (if k_tag (M.1 a 3) = 1 then f_X2_choose a v M else if k_tag (M.1 a 3) = 4 then f_X5_choose a v M else if k_tag (M.1 a 3) = 3 then f_X4_choose a v M else if k_tag (M.1 a 3) = 0 then f_X1_choose a v M else f_X8_choose a v M)
theorem x_vd_Rule_choose {Z : k_Z} {G : k_G} {ρ : Type} {em : ρ → Option Value} {F2 : Nat × Nat × Nat × Nat} {K : Nat × Nat} {pc : Nat} {lv : List (Nat × Value)} {st rest : List Value} {M : k_M} {own : String} {cc : ByteArray} {ret : Option FieldType} {nm : String} (C : k_C Z G own cc (true, F2) ret nm) {idx a : Nat} {v : Nat} {k : Int32 → k_M → Option (ρ × k_M)} (hv : isW v) (hl : Cond.methodLink own idx (⟨"WheelCity$Rule", "choose", "(LWheelCity$World;)I"⟩ : MethodName) ∈ lw_tbl) (hd : 22 + 1 ≤ F2.2.1) (h1 : K.1 ≤ F2.2.2.1) (h2 : K.2 ≤ F2.2.2.2) (hs : st = [k_ra Z v].reverse ++ k_ra Z a :: rest) (hr : (rest.map fun v => v.category).sum ≤ 8) (hdg : decode cc pc = .ok (.invokevirtual idx, 3)) (kk : ∀ (r : Int32) (M1 : k_M), Sm Z G em (true, F2) K (pc + 3) lv (.int r :: rest) M1 (k r M1)) : Sm Z G em (true, F2) K pc lv st M (bd (vd_Rule_choose a v M) k) := by
  unfold vd_Rule_choose isRl
  by_cases hc : 105 ≤ a ∧ a < M.2.2.2
  · rw [if_pos hc]
    by_cases ht1 : k_tag (M.1 a 3) = 1
    · rw [if_pos ht1]
      exact x_callD C (r := (RX2, TX2, 3)) (x := (⟨"WheelCity$Rule", "choose", "(LWheelCity$World;)I"⟩ : MethodName)) (y := yX2_choose) (owner := "WheelCity$Rule") (vs := [k_ra Z v]) (rest := rest) hc.1 hc.2 (by rw [ht1]; rfl) (c_X2_choose C.2.2.2.2.2.2.2.2.2 G.2.1 a v M hv) cy_X2_choose hl (List.mem_of_getElem? (i := 871) (by decide +kernel)) (k_decl C (List.mem_of_getElem? (i := 870) (by decide +kernel))) ⟨by decide +kernel, by decide +kernel⟩ rfl (List.mem_of_getElem? (i := 893) (by decide +kernel)) im_X2_choose (Nat.le_trans (by decide) hd) (by decide) h1 h2 rfl hs hr hdg (fun r M1 => kk r M1)
    · rw [if_neg ht1]
      by_cases ht4 : k_tag (M.1 a 3) = 4
      · rw [if_pos ht4]
        exact x_callD C (r := (RX5, TX5, 3)) (x := (⟨"WheelCity$Rule", "choose", "(LWheelCity$World;)I"⟩ : MethodName)) (y := yX5_choose) (owner := "WheelCity$Rule") (vs := [k_ra Z v]) (rest := rest) hc.1 hc.2 (by rw [ht4]; rfl) (c_X5_choose C.2.2.2.2.2.2.2.2.2 G.2.1 a v M hv) cy_X5_choose hl (List.mem_of_getElem? (i := 871) (by decide +kernel)) (k_decl C (List.mem_of_getElem? (i := 870) (by decide +kernel))) ⟨by decide +kernel, by decide +kernel⟩ rfl (List.mem_of_getElem? (i := 899) (by decide +kernel)) im_X5_choose (Nat.le_trans (by decide) hd) (by decide) h1 h2 rfl hs hr hdg (fun r M1 => kk r M1)
      · rw [if_neg ht4]
        by_cases ht3 : k_tag (M.1 a 3) = 3
        · rw [if_pos ht3]
          exact x_callD C (r := (RX4, TX4, 3)) (x := (⟨"WheelCity$Rule", "choose", "(LWheelCity$World;)I"⟩ : MethodName)) (y := yX4_choose) (owner := "WheelCity$Rule") (vs := [k_ra Z v]) (rest := rest) hc.1 hc.2 (by rw [ht3]; rfl) (c_X4_choose C.2.2.2.2.2.2.2.2.2 G.2.1 a v M hv) cy_X4_choose hl (List.mem_of_getElem? (i := 871) (by decide +kernel)) (k_decl C (List.mem_of_getElem? (i := 870) (by decide +kernel))) ⟨by decide +kernel, by decide +kernel⟩ rfl (List.mem_of_getElem? (i := 896) (by decide +kernel)) im_X4_choose (Nat.le_trans (by decide) hd) (by decide) h1 h2 rfl hs hr hdg (fun r M1 => kk r M1)
        · rw [if_neg ht3]
          by_cases ht0 : k_tag (M.1 a 3) = 0
          · rw [if_pos ht0]
            exact x_callD C (r := (RX1, TX1, 3)) (x := (⟨"WheelCity$Rule", "choose", "(LWheelCity$World;)I"⟩ : MethodName)) (y := yX1_choose) (owner := "WheelCity$Rule") (vs := [k_ra Z v]) (rest := rest) hc.1 hc.2 (by rw [ht0]; rfl) (c_X1_choose C.2.2.2.2.2.2.2.2.2 G.2.1 a v M hv) cy_X1_choose hl (List.mem_of_getElem? (i := 871) (by decide +kernel)) (k_decl C (List.mem_of_getElem? (i := 870) (by decide +kernel))) ⟨by decide +kernel, by decide +kernel⟩ rfl (List.mem_of_getElem? (i := 872) (by decide +kernel)) im_X1_choose (Nat.le_trans (by decide) hd) (by decide) h1 h2 rfl hs hr hdg (fun r M1 => kk r M1)
          · rw [if_neg ht0]
            exact x_callD C (r := (RX8, TX8, 3)) (x := (⟨"WheelCity$Rule", "choose", "(LWheelCity$World;)I"⟩ : MethodName)) (y := yX8_choose) (owner := "WheelCity$Rule") (vs := [k_ra Z v]) (rest := rest) hc.1 hc.2 (by rcases k_tags (M.1 a 3) with h | h | h | h | h; exact absurd h ht1; exact absurd h ht4; exact absurd h ht3; exact absurd h ht0; rw [h]; rfl) (c_X8_choose C.2.2.2.2.2.2.2.2.2 G.2.1 a v M hv) cy_X8_choose hl (List.mem_of_getElem? (i := 871) (by decide +kernel)) (k_decl C (List.mem_of_getElem? (i := 870) (by decide +kernel))) ⟨by decide +kernel, by decide +kernel⟩ rfl (List.mem_of_getElem? (i := 900) (by decide +kernel)) im_X8_choose (Nat.le_trans (by decide) hd) (by decide) h1 h2 rfl hs hr hdg (fun r M1 => kk r M1)
  · rw [if_neg hc]
    exact x_none
