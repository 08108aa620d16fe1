theorem cy_X11_act : k_cy yX11_act cX11_act 6 (some .int) 3 := ⟨List.mem_of_getElem? (i := 984) (by decide +kernel), List.mem_of_getElem? (i := 107) (by decide +kernel), ⟨by decide +kernel, by decide +kernel⟩, by decide +kernel⟩
theorem cy_X11_again : k_cy yX11_again cX11_again 1 (some .int) 0 := ⟨List.mem_of_getElem? (i := 1089) (by decide +kernel), List.mem_of_getElem? (i := 107) (by decide +kernel), ⟨by decide +kernel, by decide +kernel⟩, by decide +kernel⟩
theorem cy_X11_alterRow : k_cy yX11_alterRow cX11_alterRow 5 (some .int) 3 := ⟨List.mem_of_getElem? (i := 924) (by decide +kernel), List.mem_of_getElem? (i := 107) (by decide +kernel), ⟨by decide +kernel, by decide +kernel⟩, by decide +kernel⟩
theorem cy_X11_best : k_cy yX11_best cX11_best 4 (some .int) 2 := ⟨List.mem_of_getElem? (i := 670) (by decide +kernel), List.mem_of_getElem? (i := 107) (by decide +kernel), ⟨by decide +kernel, by decide +kernel⟩, by decide +kernel⟩
theorem cy_X11_city : k_cy yX11_city cX11_city 5 (some .int) 4 := ⟨List.mem_of_getElem? (i := 576) (by decide +kernel), List.mem_of_getElem? (i := 107) (by decide +kernel), ⟨by decide +kernel, by decide +kernel⟩, by decide +kernel⟩
theorem cy_X11_cityOf : k_cy yX11_cityOf cX11_cityOf 2 (some .int) 1 := ⟨List.mem_of_getElem? (i := 588) (by decide +kernel), List.mem_of_getElem? (i := 107) (by decide +kernel), ⟨by decide +kernel, by decide +kernel⟩, by decide +kernel⟩
theorem cy_X11_does : k_cy yX11_does cX11_does 3 (some .int) 1 := ⟨List.mem_of_getElem? (i := 653) (by decide +kernel), List.mem_of_getElem? (i := 107) (by decide +kernel), ⟨by decide +kernel, by decide +kernel⟩, by decide +kernel⟩
theorem cy_X11_far : k_cy yX11_far cX11_far 4 (some .int) 2 := ⟨List.mem_of_getElem? (i := 725) (by decide +kernel), List.mem_of_getElem? (i := 107) (by decide +kernel), ⟨by decide +kernel, by decide +kernel⟩, by decide +kernel⟩
theorem cy_X11_feed : k_cy yX11_feed cX11_feed 4 (some .int) 2 := ⟨List.mem_of_getElem? (i := 373) (by decide +kernel), List.mem_of_getElem? (i := 107) (by decide +kernel), ⟨by decide +kernel, by decide +kernel⟩, by decide +kernel⟩
theorem cy_X11_follow : k_cy yX11_follow cX11_follow 5 (some .int) 2 := ⟨List.mem_of_getElem? (i := 908) (by decide +kernel), List.mem_of_getElem? (i := 107) (by decide +kernel), ⟨by decide +kernel, by decide +kernel⟩, by decide +kernel⟩
theorem cy_X11_gate : k_cy yX11_gate cX11_gate 4 (some .int) 2 := ⟨List.mem_of_getElem? (i := 754) (by decide +kernel), List.mem_of_getElem? (i := 107) (by decide +kernel), ⟨by decide +kernel, by decide +kernel⟩, by decide +kernel⟩
theorem cy_X11_item : k_cy yX11_item cX11_item 4 (some .int) 3 := ⟨List.mem_of_getElem? (i := 946) (by decide +kernel), List.mem_of_getElem? (i := 107) (by decide +kernel), ⟨by decide +kernel, by decide +kernel⟩, by decide +kernel⟩
theorem cy_X11_judge : k_cy yX11_judge cX11_judge 2 (some .int) 0 := ⟨List.mem_of_getElem? (i := 928) (by decide +kernel), List.mem_of_getElem? (i := 107) (by decide +kernel), ⟨by decide +kernel, by decide +kernel⟩, by decide +kernel⟩
theorem cy_X11_keep : k_cy yX11_keep cX11_keep 1 (some .int) 0 := ⟨List.mem_of_getElem? (i := 1085) (by decide +kernel), List.mem_of_getElem? (i := 107) (by decide +kernel), ⟨by decide +kernel, by decide +kernel⟩, by decide +kernel⟩
theorem cy_X11_last : k_cy yX11_last cX11_last 2 (some .int) 0 := ⟨List.mem_of_getElem? (i := 693) (by decide +kernel), List.mem_of_getElem? (i := 107) (by decide +kernel), ⟨by decide +kernel, by decide +kernel⟩, by decide +kernel⟩
theorem cy_X11_light : k_cy yX11_light cX11_light 5 (some .int) 1 := ⟨List.mem_of_getElem? (i := 721) (by decide +kernel), List.mem_of_getElem? (i := 107) (by decide +kernel), ⟨by decide +kernel, by decide +kernel⟩, by decide +kernel⟩
theorem cy_X11_many : k_cy yX11_many cX11_many 2 (some .int) 1 := ⟨List.mem_of_getElem? (i := 1081) (by decide +kernel), List.mem_of_getElem? (i := 107) (by decide +kernel), ⟨by decide +kernel, by decide +kernel⟩, by decide +kernel⟩
theorem cy_X11_may : k_cy yX11_may cX11_may 2 (some .int) 1 := ⟨List.mem_of_getElem? (i := 599) (by decide +kernel), List.mem_of_getElem? (i := 107) (by decide +kernel), ⟨by decide +kernel, by decide +kernel⟩, by decide +kernel⟩
theorem cy_X11_meet : k_cy yX11_meet cX11_meet 3 (some .int) 1 := ⟨List.mem_of_getElem? (i := 740) (by decide +kernel), List.mem_of_getElem? (i := 107) (by decide +kernel), ⟨by decide +kernel, by decide +kernel⟩, by decide +kernel⟩
theorem cy_X11_next : k_cy yX11_next cX11_next 3 (some .int) 1 := ⟨List.mem_of_getElem? (i := 868) (by decide +kernel), List.mem_of_getElem? (i := 107) (by decide +kernel), ⟨by decide +kernel, by decide +kernel⟩, by decide +kernel⟩
theorem cy_X11_party : k_cy yX11_party cX11_party 2 (some .int) 1 := ⟨List.mem_of_getElem? (i := 749) (by decide +kernel), List.mem_of_getElem? (i := 107) (by decide +kernel), ⟨by decide +kernel, by decide +kernel⟩, by decide +kernel⟩
theorem cy_X11_place : k_cy yX11_place cX11_place 4 (some .int) 3 := ⟨List.mem_of_getElem? (i := 531) (by decide +kernel), List.mem_of_getElem? (i := 107) (by decide +kernel), ⟨by decide +kernel, by decide +kernel⟩, by decide +kernel⟩
theorem cy_X11_placeOf : k_cy yX11_placeOf cX11_placeOf 4 (some .int) 2 := ⟨List.mem_of_getElem? (i := 550) (by decide +kernel), List.mem_of_getElem? (i := 107) (by decide +kernel), ⟨by decide +kernel, by decide +kernel⟩, by decide +kernel⟩
theorem cy_X11_plain : k_cy yX11_plain cX11_plain 2 (some .int) 0 := ⟨List.mem_of_getElem? (i := 381) (by decide +kernel), List.mem_of_getElem? (i := 107) (by decide +kernel), ⟨by decide +kernel, by decide +kernel⟩, by decide +kernel⟩
theorem cy_X11_prove : k_cy yX11_prove cX11_prove 4 (some .int) 1 := ⟨List.mem_of_getElem? (i := 912) (by decide +kernel), List.mem_of_getElem? (i := 107) (by decide +kernel), ⟨by decide +kernel, by decide +kernel⟩, by decide +kernel⟩
theorem cy_X11_put : k_cy yX11_put cX11_put 4 (some .int) 3 := ⟨List.mem_of_getElem? (i := 939) (by decide +kernel), List.mem_of_getElem? (i := 107) (by decide +kernel), ⟨by decide +kernel, by decide +kernel⟩, by decide +kernel⟩
theorem cy_X11_rain : k_cy yX11_rain cX11_rain 3 (some .int) 1 := ⟨List.mem_of_getElem? (i := 572) (by decide +kernel), List.mem_of_getElem? (i := 107) (by decide +kernel), ⟨by decide +kernel, by decide +kernel⟩, by decide +kernel⟩
theorem cy_X11_round : k_cy yX11_round cX11_round 5 (some .int) 2 := ⟨List.mem_of_getElem? (i := 759) (by decide +kernel), List.mem_of_getElem? (i := 107) (by decide +kernel), ⟨by decide +kernel, by decide +kernel⟩, by decide +kernel⟩
theorem cy_X11_row : k_cy yX11_row cX11_row 3 (some .int) 2 := ⟨List.mem_of_getElem? (i := 916) (by decide +kernel), List.mem_of_getElem? (i := 107) (by decide +kernel), ⟨by decide +kernel, by decide +kernel⟩, by decide +kernel⟩
theorem cy_X11_rule : k_cy yX11_rule cX11_rule 4 (some .int) 2 := ⟨List.mem_of_getElem? (i := 776) (by decide +kernel), List.mem_of_getElem? (i := 107) (by decide +kernel), ⟨by decide +kernel, by decide +kernel⟩, by decide +kernel⟩
theorem cy_X11_ruleOf : k_cy yX11_ruleOf cX11_ruleOf 4 (some .int) 2 := ⟨List.mem_of_getElem? (i := 860) (by decide +kernel), List.mem_of_getElem? (i := 107) (by decide +kernel), ⟨by decide +kernel, by decide +kernel⟩, by decide +kernel⟩
theorem cy_X11_set : k_cy yX11_set cX11_set 4 (some .int) 2 := ⟨List.mem_of_getElem? (i := 566) (by decide +kernel), List.mem_of_getElem? (i := 107) (by decide +kernel), ⟨by decide +kernel, by decide +kernel⟩, by decide +kernel⟩
theorem cy_X11_sheet : k_cy yX11_sheet cX11_sheet 4 (some .int) 3 := ⟨List.mem_of_getElem? (i := 932) (by decide +kernel), List.mem_of_getElem? (i := 107) (by decide +kernel), ⟨by decide +kernel, by decide +kernel⟩, by decide +kernel⟩
theorem cy_X11_shelf : k_cy yX11_shelf cX11_shelf 4 (some .int) 3 := ⟨List.mem_of_getElem? (i := 950) (by decide +kernel), List.mem_of_getElem? (i := 107) (by decide +kernel), ⟨by decide +kernel, by decide +kernel⟩, by decide +kernel⟩
theorem cy_X11_stuck : k_cy yX11_stuck cX11_stuck 2 (some .int) 0 := ⟨List.mem_of_getElem? (i := 658) (by decide +kernel), List.mem_of_getElem? (i := 107) (by decide +kernel), ⟨by decide +kernel, by decide +kernel⟩, by decide +kernel⟩
theorem cy_X11_surest : k_cy yX11_surest cX11_surest 5 (some .int) 2 := ⟨List.mem_of_getElem? (i := 701) (by decide +kernel), List.mem_of_getElem? (i := 107) (by decide +kernel), ⟨by decide +kernel, by decide +kernel⟩, by decide +kernel⟩
theorem cy_X11_taken : k_cy yX11_taken cX11_taken 5 (some .int) 2 := ⟨List.mem_of_getElem? (i := 962) (by decide +kernel), List.mem_of_getElem? (i := 107) (by decide +kernel), ⟨by decide +kernel, by decide +kernel⟩, by decide +kernel⟩
theorem cy_X11_trace : k_cy yX11_trace cX11_trace 2 (some .int) 1 := ⟨List.mem_of_getElem? (i := 1077) (by decide +kernel), List.mem_of_getElem? (i := 107) (by decide +kernel), ⟨by decide +kernel, by decide +kernel⟩, by decide +kernel⟩
theorem cy_X11_way : k_cy yX11_way cX11_way 7 (some .int) 5 := ⟨List.mem_of_getElem? (i := 540) (by decide +kernel), List.mem_of_getElem? (i := 107) (by decide +kernel), ⟨by decide +kernel, by decide +kernel⟩, by decide +kernel⟩
theorem cy_X11_wayOf : k_cy yX11_wayOf cX11_wayOf 4 (some .int) 2 := ⟨List.mem_of_getElem? (i := 554) (by decide +kernel), List.mem_of_getElem? (i := 107) (by decide +kernel), ⟨by decide +kernel, by decide +kernel⟩, by decide +kernel⟩
theorem cy_X12_act : k_cy yX12_act cX12_act 6 (some .int) 3 := ⟨List.mem_of_getElem? (i := 1603) (by decide +kernel), List.mem_of_getElem? (i := 112) (by decide +kernel), ⟨by decide +kernel, by decide +kernel⟩, by decide +kernel⟩
theorem cy_X12_again : k_cy yX12_again cX12_again 1 (some .int) 0 := ⟨List.mem_of_getElem? (i := 1667) (by decide +kernel), List.mem_of_getElem? (i := 112) (by decide +kernel), ⟨by decide +kernel, by decide +kernel⟩, by decide +kernel⟩
theorem cy_X12_alterRow : k_cy yX12_alterRow cX12_alterRow 5 (some .int) 3 := ⟨List.mem_of_getElem? (i := 1564) (by decide +kernel), List.mem_of_getElem? (i := 112) (by decide +kernel), ⟨by decide +kernel, by decide +kernel⟩, by decide +kernel⟩
theorem cy_X12_best : k_cy yX12_best cX12_best 4 (some .int) 2 := ⟨List.mem_of_getElem? (i := 1438) (by decide +kernel), List.mem_of_getElem? (i := 112) (by decide +kernel), ⟨by decide +kernel, by decide +kernel⟩, by decide +kernel⟩
theorem cy_X12_city : k_cy yX12_city cX12_city 5 (some .int) 4 := ⟨List.mem_of_getElem? (i := 1376) (by decide +kernel), List.mem_of_getElem? (i := 112) (by decide +kernel), ⟨by decide +kernel, by decide +kernel⟩, by decide +kernel⟩
theorem cy_X12_cityOf : k_cy yX12_cityOf cX12_cityOf 2 (some .int) 1 := ⟨List.mem_of_getElem? (i := 1380) (by decide +kernel), List.mem_of_getElem? (i := 112) (by decide +kernel), ⟨by decide +kernel, by decide +kernel⟩, by decide +kernel⟩
theorem cy_X12_does : k_cy yX12_does cX12_does 3 (some .int) 1 := ⟨List.mem_of_getElem? (i := 1422) (by decide +kernel), List.mem_of_getElem? (i := 112) (by decide +kernel), ⟨by decide +kernel, by decide +kernel⟩, by decide +kernel⟩
theorem cy_X12_far : k_cy yX12_far cX12_far 3 (some .int) 2 := ⟨List.mem_of_getElem? (i := 1480) (by decide +kernel), List.mem_of_getElem? (i := 112) (by decide +kernel), ⟨by decide +kernel, by decide +kernel⟩, by decide +kernel⟩
theorem cy_X12_feed : k_cy yX12_feed cX12_feed 5 (some .int) 2 := ⟨List.mem_of_getElem? (i := 1259) (by decide +kernel), List.mem_of_getElem? (i := 112) (by decide +kernel), ⟨by decide +kernel, by decide +kernel⟩, by decide +kernel⟩
theorem cy_X12_follow : k_cy yX12_follow cX12_follow 4 (some .int) 2 := ⟨List.mem_of_getElem? (i := 1548) (by decide +kernel), List.mem_of_getElem? (i := 112) (by decide +kernel), ⟨by decide +kernel, by decide +kernel⟩, by decide +kernel⟩
theorem cy_X12_gate : k_cy yX12_gate cX12_gate 4 (some .int) 2 := ⟨List.mem_of_getElem? (i := 1500) (by decide +kernel), List.mem_of_getElem? (i := 112) (by decide +kernel), ⟨by decide +kernel, by decide +kernel⟩, by decide +kernel⟩
theorem cy_X12_item : k_cy yX12_item cX12_item 5 (some .int) 3 := ⟨List.mem_of_getElem? (i := 1580) (by decide +kernel), List.mem_of_getElem? (i := 112) (by decide +kernel), ⟨by decide +kernel, by decide +kernel⟩, by decide +kernel⟩
theorem cy_X12_judge : k_cy yX12_judge cX12_judge 3 (some .int) 0 := ⟨List.mem_of_getElem? (i := 1568) (by decide +kernel), List.mem_of_getElem? (i := 112) (by decide +kernel), ⟨by decide +kernel, by decide +kernel⟩, by decide +kernel⟩
theorem cy_X12_keep : k_cy yX12_keep cX12_keep 1 (some .int) 0 := ⟨List.mem_of_getElem? (i := 1655) (by decide +kernel), List.mem_of_getElem? (i := 112) (by decide +kernel), ⟨by decide +kernel, by decide +kernel⟩, by decide +kernel⟩
theorem cy_X12_last : k_cy yX12_last cX12_last 2 (some .int) 0 := ⟨List.mem_of_getElem? (i := 1449) (by decide +kernel), List.mem_of_getElem? (i := 112) (by decide +kernel), ⟨by decide +kernel, by decide +kernel⟩, by decide +kernel⟩
theorem cy_X12_light : k_cy yX12_light cX12_light 4 (some .int) 1 := ⟨List.mem_of_getElem? (i := 1476) (by decide +kernel), List.mem_of_getElem? (i := 112) (by decide +kernel), ⟨by decide +kernel, by decide +kernel⟩, by decide +kernel⟩
theorem cy_X12_many : k_cy yX12_many cX12_many 2 (some .int) 1 := ⟨List.mem_of_getElem? (i := 1651) (by decide +kernel), List.mem_of_getElem? (i := 112) (by decide +kernel), ⟨by decide +kernel, by decide +kernel⟩, by decide +kernel⟩
theorem cy_X12_may : k_cy yX12_may cX12_may 2 (some .int) 1 := ⟨List.mem_of_getElem? (i := 1391) (by decide +kernel), List.mem_of_getElem? (i := 112) (by decide +kernel), ⟨by decide +kernel, by decide +kernel⟩, by decide +kernel⟩
theorem cy_X12_meet : k_cy yX12_meet cX12_meet 7 (some .int) 1 := ⟨List.mem_of_getElem? (i := 1492) (by decide +kernel), List.mem_of_getElem? (i := 112) (by decide +kernel), ⟨by decide +kernel, by decide +kernel⟩, by decide +kernel⟩
theorem cy_X12_next : k_cy yX12_next cX12_next 2 (some .int) 1 := ⟨List.mem_of_getElem? (i := 1532) (by decide +kernel), List.mem_of_getElem? (i := 112) (by decide +kernel), ⟨by decide +kernel, by decide +kernel⟩, by decide +kernel⟩
theorem cy_X12_party : k_cy yX12_party cX12_party 3 (some .int) 1 := ⟨List.mem_of_getElem? (i := 1496) (by decide +kernel), List.mem_of_getElem? (i := 112) (by decide +kernel), ⟨by decide +kernel, by decide +kernel⟩, by decide +kernel⟩
theorem cy_X12_place : k_cy yX12_place cX12_place 4 (some .int) 3 := ⟨List.mem_of_getElem? (i := 1340) (by decide +kernel), List.mem_of_getElem? (i := 112) (by decide +kernel), ⟨by decide +kernel, by decide +kernel⟩, by decide +kernel⟩
theorem cy_X12_placeOf : k_cy yX12_placeOf cX12_placeOf 3 (some .int) 2 := ⟨List.mem_of_getElem? (i := 1356) (by decide +kernel), List.mem_of_getElem? (i := 112) (by decide +kernel), ⟨by decide +kernel, by decide +kernel⟩, by decide +kernel⟩
theorem cy_X12_plain : k_cy yX12_plain cX12_plain 2 (some .int) 0 := ⟨List.mem_of_getElem? (i := 1267) (by decide +kernel), List.mem_of_getElem? (i := 112) (by decide +kernel), ⟨by decide +kernel, by decide +kernel⟩, by decide +kernel⟩
theorem cy_X12_prove : k_cy yX12_prove cX12_prove 4 (some .int) 1 := ⟨List.mem_of_getElem? (i := 1552) (by decide +kernel), List.mem_of_getElem? (i := 112) (by decide +kernel), ⟨by decide +kernel, by decide +kernel⟩, by decide +kernel⟩
theorem cy_X12_put : k_cy yX12_put cX12_put 4 (some .int) 3 := ⟨List.mem_of_getElem? (i := 1576) (by decide +kernel), List.mem_of_getElem? (i := 112) (by decide +kernel), ⟨by decide +kernel, by decide +kernel⟩, by decide +kernel⟩
theorem cy_X12_rain : k_cy yX12_rain cX12_rain 3 (some .int) 1 := ⟨List.mem_of_getElem? (i := 1372) (by decide +kernel), List.mem_of_getElem? (i := 112) (by decide +kernel), ⟨by decide +kernel, by decide +kernel⟩, by decide +kernel⟩
theorem cy_X12_round : k_cy yX12_round cX12_round 7 (some .int) 2 := ⟨List.mem_of_getElem? (i := 1504) (by decide +kernel), List.mem_of_getElem? (i := 112) (by decide +kernel), ⟨by decide +kernel, by decide +kernel⟩, by decide +kernel⟩
theorem cy_X12_row : k_cy yX12_row cX12_row 3 (some .int) 2 := ⟨List.mem_of_getElem? (i := 1556) (by decide +kernel), List.mem_of_getElem? (i := 112) (by decide +kernel), ⟨by decide +kernel, by decide +kernel⟩, by decide +kernel⟩
theorem cy_X12_rule : k_cy yX12_rule cX12_rule 3 (some .int) 2 := ⟨List.mem_of_getElem? (i := 1519) (by decide +kernel), List.mem_of_getElem? (i := 112) (by decide +kernel), ⟨by decide +kernel, by decide +kernel⟩, by decide +kernel⟩
theorem cy_X12_ruleOf : k_cy yX12_ruleOf cX12_ruleOf 3 (some .int) 2 := ⟨List.mem_of_getElem? (i := 1524) (by decide +kernel), List.mem_of_getElem? (i := 112) (by decide +kernel), ⟨by decide +kernel, by decide +kernel⟩, by decide +kernel⟩
theorem cy_X12_set : k_cy yX12_set cX12_set 4 (some .int) 2 := ⟨List.mem_of_getElem? (i := 1368) (by decide +kernel), List.mem_of_getElem? (i := 112) (by decide +kernel), ⟨by decide +kernel, by decide +kernel⟩, by decide +kernel⟩
theorem cy_X12_sheet : k_cy yX12_sheet cX12_sheet 5 (some .int) 3 := ⟨List.mem_of_getElem? (i := 1572) (by decide +kernel), List.mem_of_getElem? (i := 112) (by decide +kernel), ⟨by decide +kernel, by decide +kernel⟩, by decide +kernel⟩
theorem cy_X12_shelf : k_cy yX12_shelf cX12_shelf 4 (some .int) 3 := ⟨List.mem_of_getElem? (i := 1584) (by decide +kernel), List.mem_of_getElem? (i := 112) (by decide +kernel), ⟨by decide +kernel, by decide +kernel⟩, by decide +kernel⟩
theorem cy_X12_stuck : k_cy yX12_stuck cX12_stuck 2 (some .int) 0 := ⟨List.mem_of_getElem? (i := 1434) (by decide +kernel), List.mem_of_getElem? (i := 112) (by decide +kernel), ⟨by decide +kernel, by decide +kernel⟩, by decide +kernel⟩
theorem cy_X12_surest : k_cy yX12_surest cX12_surest 3 (some .int) 2 := ⟨List.mem_of_getElem? (i := 1453) (by decide +kernel), List.mem_of_getElem? (i := 112) (by decide +kernel), ⟨by decide +kernel, by decide +kernel⟩, by decide +kernel⟩
theorem cy_X12_taken : k_cy yX12_taken cX12_taken 4 (some .int) 2 := ⟨List.mem_of_getElem? (i := 1592) (by decide +kernel), List.mem_of_getElem? (i := 112) (by decide +kernel), ⟨by decide +kernel, by decide +kernel⟩, by decide +kernel⟩
theorem cy_X12_trace : k_cy yX12_trace cX12_trace 2 (some .int) 1 := ⟨List.mem_of_getElem? (i := 1647) (by decide +kernel), List.mem_of_getElem? (i := 112) (by decide +kernel), ⟨by decide +kernel, by decide +kernel⟩, by decide +kernel⟩
theorem cy_X12_way : k_cy yX12_way cX12_way 7 (some .int) 5 := ⟨List.mem_of_getElem? (i := 1344) (by decide +kernel), List.mem_of_getElem? (i := 112) (by decide +kernel), ⟨by decide +kernel, by decide +kernel⟩, by decide +kernel⟩
theorem cy_X12_wayOf : k_cy yX12_wayOf cX12_wayOf 3 (some .int) 2 := ⟨List.mem_of_getElem? (i := 1360) (by decide +kernel), List.mem_of_getElem? (i := 112) (by decide +kernel), ⟨by decide +kernel, by decide +kernel⟩, by decide +kernel⟩
theorem lk_RL_15 : k_lk RL 15 yX11_feed := Or.inl (List.mem_of_getElem? (i := 370) (by decide +kernel))
theorem lk_RL_19 : k_lk RL 19 yX12_feed := Or.inl (List.mem_of_getElem? (i := 1256) (by decide +kernel))
theorem lk_RL_20 : k_lk RL 20 yX11_plain := Or.inl (List.mem_of_getElem? (i := 378) (by decide +kernel))
theorem lk_RL_24 : k_lk RL 24 yX12_plain := Or.inl (List.mem_of_getElem? (i := 1264) (by decide +kernel))
theorem lk_RL_25 : k_lk RL 25 yX11_place := Or.inl (List.mem_of_getElem? (i := 528) (by decide +kernel))
theorem lk_RL_29 : k_lk RL 29 yX12_place := Or.inl (List.mem_of_getElem? (i := 1337) (by decide +kernel))
theorem lk_RL_30 : k_lk RL 30 yX11_way := Or.inl (List.mem_of_getElem? (i := 537) (by decide +kernel))
theorem lk_RL_34 : k_lk RL 34 yX12_way := Or.inl (List.mem_of_getElem? (i := 1341) (by decide +kernel))
theorem lk_RL_35 : k_lk RL 35 yX11_placeOf := Or.inl (List.mem_of_getElem? (i := 547) (by decide +kernel))
theorem lk_RL_39 : k_lk RL 39 yX12_placeOf := Or.inl (List.mem_of_getElem? (i := 1353) (by decide +kernel))
theorem lk_RL_40 : k_lk RL 40 yX11_wayOf := Or.inl (List.mem_of_getElem? (i := 551) (by decide +kernel))
theorem lk_RL_43 : k_lk RL 43 yX12_wayOf := Or.inl (List.mem_of_getElem? (i := 1357) (by decide +kernel))
theorem lk_RL_44 : k_lk RL 44 yX11_set := Or.inl (List.mem_of_getElem? (i := 563) (by decide +kernel))
theorem lk_RL_47 : k_lk RL 47 yX12_set := Or.inl (List.mem_of_getElem? (i := 1365) (by decide +kernel))
theorem lk_RL_48 : k_lk RL 48 yX11_rain := Or.inl (List.mem_of_getElem? (i := 569) (by decide +kernel))
theorem lk_RL_52 : k_lk RL 52 yX12_rain := Or.inl (List.mem_of_getElem? (i := 1369) (by decide +kernel))
theorem lk_RL_53 : k_lk RL 53 yX11_city := Or.inl (List.mem_of_getElem? (i := 573) (by decide +kernel))
theorem lk_RL_57 : k_lk RL 57 yX12_city := Or.inl (List.mem_of_getElem? (i := 1373) (by decide +kernel))
theorem lk_RL_58 : k_lk RL 58 yX11_cityOf := Or.inl (List.mem_of_getElem? (i := 585) (by decide +kernel))
theorem lk_RL_61 : k_lk RL 61 yX12_cityOf := Or.inl (List.mem_of_getElem? (i := 1377) (by decide +kernel))
theorem lk_RL_62 : k_lk RL 62 yX11_may := Or.inl (List.mem_of_getElem? (i := 596) (by decide +kernel))
theorem lk_RL_65 : k_lk RL 65 yX12_may := Or.inl (List.mem_of_getElem? (i := 1388) (by decide +kernel))
theorem lk_RL_66 : k_lk RL 66 yX11_does := Or.inl (List.mem_of_getElem? (i := 650) (by decide +kernel))
theorem lk_RL_69 : k_lk RL 69 yX12_does := Or.inl (List.mem_of_getElem? (i := 1419) (by decide +kernel))
theorem lk_RL_70 : k_lk RL 70 yX11_stuck := Or.inl (List.mem_of_getElem? (i := 655) (by decide +kernel))
theorem lk_RL_73 : k_lk RL 73 yX12_stuck := Or.inl (List.mem_of_getElem? (i := 1431) (by decide +kernel))
theorem lk_RL_74 : k_lk RL 74 yX11_best := Or.inl (List.mem_of_getElem? (i := 667) (by decide +kernel))
theorem lk_RL_77 : k_lk RL 77 yX12_best := Or.inl (List.mem_of_getElem? (i := 1435) (by decide +kernel))
theorem lk_RL_78 : k_lk RL 78 yX11_last := Or.inl (List.mem_of_getElem? (i := 690) (by decide +kernel))
theorem lk_RL_81 : k_lk RL 81 yX12_last := Or.inl (List.mem_of_getElem? (i := 1446) (by decide +kernel))
theorem lk_RL_82 : k_lk RL 82 yX11_surest := Or.inl (List.mem_of_getElem? (i := 698) (by decide +kernel))
theorem lk_RL_85 : k_lk RL 85 yX12_surest := Or.inl (List.mem_of_getElem? (i := 1450) (by decide +kernel))
theorem lk_RL_86 : k_lk RL 86 yX11_light := Or.inl (List.mem_of_getElem? (i := 718) (by decide +kernel))
theorem lk_RL_89 : k_lk RL 89 yX12_light := Or.inl (List.mem_of_getElem? (i := 1473) (by decide +kernel))
theorem lk_RL_90 : k_lk RL 90 yX11_far := Or.inl (List.mem_of_getElem? (i := 722) (by decide +kernel))
theorem lk_RL_93 : k_lk RL 93 yX12_far := Or.inl (List.mem_of_getElem? (i := 1477) (by decide +kernel))
theorem lk_RL_94 : k_lk RL 94 yX11_meet := Or.inl (List.mem_of_getElem? (i := 737) (by decide +kernel))
theorem lk_RL_97 : k_lk RL 97 yX12_meet := Or.inl (List.mem_of_getElem? (i := 1489) (by decide +kernel))
theorem lk_RL_98 : k_lk RL 98 yX11_party := Or.inl (List.mem_of_getElem? (i := 746) (by decide +kernel))
theorem lk_RL_101 : k_lk RL 101 yX12_party := Or.inl (List.mem_of_getElem? (i := 1493) (by decide +kernel))
theorem lk_RL_102 : k_lk RL 102 yX11_gate := Or.inl (List.mem_of_getElem? (i := 751) (by decide +kernel))
theorem lk_RL_105 : k_lk RL 105 yX12_gate := Or.inl (List.mem_of_getElem? (i := 1497) (by decide +kernel))
theorem lk_RL_106 : k_lk RL 106 yX11_round := Or.inl (List.mem_of_getElem? (i := 756) (by decide +kernel))
theorem lk_RL_109 : k_lk RL 109 yX12_round := Or.inl (List.mem_of_getElem? (i := 1501) (by decide +kernel))
theorem lk_RL_110 : k_lk RL 110 yX11_rule := Or.inl (List.mem_of_getElem? (i := 773) (by decide +kernel))
theorem lk_RL_113 : k_lk RL 113 yX12_rule := Or.inl (List.mem_of_getElem? (i := 1516) (by decide +kernel))
theorem lk_RL_114 : k_lk RL 114 yX11_ruleOf := Or.inl (List.mem_of_getElem? (i := 857) (by decide +kernel))
theorem lk_RL_117 : k_lk RL 117 yX12_ruleOf := Or.inl (List.mem_of_getElem? (i := 1521) (by decide +kernel))
theorem lk_RL_118 : k_lk RL 118 yX11_next := Or.inl (List.mem_of_getElem? (i := 865) (by decide +kernel))
theorem lk_RL_121 : k_lk RL 121 yX12_next := Or.inl (List.mem_of_getElem? (i := 1529) (by decide +kernel))
theorem lk_RL_122 : k_lk RL 122 yX11_follow := Or.inl (List.mem_of_getElem? (i := 905) (by decide +kernel))
theorem lk_RL_125 : k_lk RL 125 yX12_follow := Or.inl (List.mem_of_getElem? (i := 1545) (by decide +kernel))
theorem lk_RL_126 : k_lk RL 126 yX11_prove := Or.inl (List.mem_of_getElem? (i := 909) (by decide +kernel))
theorem lk_RL_129 : k_lk RL 129 yX12_prove := Or.inl (List.mem_of_getElem? (i := 1549) (by decide +kernel))
theorem lk_RL_130 : k_lk RL 130 yX11_row := Or.inl (List.mem_of_getElem? (i := 913) (by decide +kernel))
theorem lk_RL_133 : k_lk RL 133 yX12_row := Or.inl (List.mem_of_getElem? (i := 1553) (by decide +kernel))
theorem lk_RL_134 : k_lk RL 134 yX11_alterRow := Or.inl (List.mem_of_getElem? (i := 921) (by decide +kernel))
theorem lk_RL_137 : k_lk RL 137 yX12_alterRow := Or.inl (List.mem_of_getElem? (i := 1561) (by decide +kernel))
theorem lk_RL_138 : k_lk RL 138 yX11_judge := Or.inl (List.mem_of_getElem? (i := 925) (by decide +kernel))
theorem lk_RL_141 : k_lk RL 141 yX12_judge := Or.inl (List.mem_of_getElem? (i := 1565) (by decide +kernel))
theorem lk_RL_142 : k_lk RL 142 yX11_sheet := Or.inl (List.mem_of_getElem? (i := 929) (by decide +kernel))
theorem lk_RL_145 : k_lk RL 145 yX12_sheet := Or.inl (List.mem_of_getElem? (i := 1569) (by decide +kernel))
theorem lk_RL_146 : k_lk RL 146 yX11_put := Or.inl (List.mem_of_getElem? (i := 936) (by decide +kernel))
theorem lk_RL_149 : k_lk RL 149 yX12_put := Or.inl (List.mem_of_getElem? (i := 1573) (by decide +kernel))
theorem lk_RL_150 : k_lk RL 150 yX11_item := Or.inl (List.mem_of_getElem? (i := 943) (by decide +kernel))
theorem lk_RL_153 : k_lk RL 153 yX12_item := Or.inl (List.mem_of_getElem? (i := 1577) (by decide +kernel))
theorem lk_RL_154 : k_lk RL 154 yX11_shelf := Or.inl (List.mem_of_getElem? (i := 947) (by decide +kernel))
theorem lk_RL_157 : k_lk RL 157 yX12_shelf := Or.inl (List.mem_of_getElem? (i := 1581) (by decide +kernel))
theorem lk_RL_158 : k_lk RL 158 yX11_taken := Or.inl (List.mem_of_getElem? (i := 959) (by decide +kernel))
theorem lk_RL_161 : k_lk RL 161 yX12_taken := Or.inl (List.mem_of_getElem? (i := 1589) (by decide +kernel))
theorem lk_RL_162 : k_lk RL 162 yX11_act := Or.inl (List.mem_of_getElem? (i := 981) (by decide +kernel))
theorem lk_RL_165 : k_lk RL 165 yX12_act := Or.inl (List.mem_of_getElem? (i := 1600) (by decide +kernel))
theorem lk_RL_166 : k_lk RL 166 yX11_trace := Or.inl (List.mem_of_getElem? (i := 1074) (by decide +kernel))
theorem lk_RL_169 : k_lk RL 169 yX12_trace := Or.inl (List.mem_of_getElem? (i := 1644) (by decide +kernel))
theorem lk_RL_170 : k_lk RL 170 yX11_many := Or.inl (List.mem_of_getElem? (i := 1078) (by decide +kernel))
theorem lk_RL_173 : k_lk RL 173 yX12_many := Or.inl (List.mem_of_getElem? (i := 1648) (by decide +kernel))
theorem lk_RL_174 : k_lk RL 174 yX11_keep := Or.inl (List.mem_of_getElem? (i := 1082) (by decide +kernel))
theorem lk_RL_177 : k_lk RL 177 yX12_keep := Or.inl (List.mem_of_getElem? (i := 1652) (by decide +kernel))
theorem lk_RL_178 : k_lk RL 178 yX11_again := Or.inl (List.mem_of_getElem? (i := 1086) (by decide +kernel))
theorem lk_RL_181 : k_lk RL 181 yX12_again := Or.inl (List.mem_of_getElem? (i := 1664) (by decide +kernel))
theorem im_X11_act : Cond.instanceMethod yX11_act ∈ lw_tbl := List.mem_of_getElem? (i := 982) (by decide +kernel)
theorem im_X11_again : Cond.instanceMethod yX11_again ∈ lw_tbl := List.mem_of_getElem? (i := 1087) (by decide +kernel)
theorem im_X11_alterRow : Cond.instanceMethod yX11_alterRow ∈ lw_tbl := List.mem_of_getElem? (i := 922) (by decide +kernel)
theorem im_X11_best : Cond.instanceMethod yX11_best ∈ lw_tbl := List.mem_of_getElem? (i := 668) (by decide +kernel)
theorem im_X11_city : Cond.instanceMethod yX11_city ∈ lw_tbl := List.mem_of_getElem? (i := 574) (by decide +kernel)
theorem im_X11_cityOf : Cond.instanceMethod yX11_cityOf ∈ lw_tbl := List.mem_of_getElem? (i := 586) (by decide +kernel)
theorem im_X11_does : Cond.instanceMethod yX11_does ∈ lw_tbl := List.mem_of_getElem? (i := 651) (by decide +kernel)
theorem im_X11_far : Cond.instanceMethod yX11_far ∈ lw_tbl := List.mem_of_getElem? (i := 723) (by decide +kernel)
theorem im_X11_feed : Cond.instanceMethod yX11_feed ∈ lw_tbl := List.mem_of_getElem? (i := 371) (by decide +kernel)
theorem im_X11_follow : Cond.instanceMethod yX11_follow ∈ lw_tbl := List.mem_of_getElem? (i := 906) (by decide +kernel)
theorem im_X11_gate : Cond.instanceMethod yX11_gate ∈ lw_tbl := List.mem_of_getElem? (i := 752) (by decide +kernel)
theorem im_X11_item : Cond.instanceMethod yX11_item ∈ lw_tbl := List.mem_of_getElem? (i := 944) (by decide +kernel)
theorem im_X11_judge : Cond.instanceMethod yX11_judge ∈ lw_tbl := List.mem_of_getElem? (i := 926) (by decide +kernel)
theorem im_X11_keep : Cond.instanceMethod yX11_keep ∈ lw_tbl := List.mem_of_getElem? (i := 1083) (by decide +kernel)
theorem im_X11_last : Cond.instanceMethod yX11_last ∈ lw_tbl := List.mem_of_getElem? (i := 691) (by decide +kernel)
theorem im_X11_light : Cond.instanceMethod yX11_light ∈ lw_tbl := List.mem_of_getElem? (i := 719) (by decide +kernel)
theorem im_X11_many : Cond.instanceMethod yX11_many ∈ lw_tbl := List.mem_of_getElem? (i := 1079) (by decide +kernel)
theorem im_X11_may : Cond.instanceMethod yX11_may ∈ lw_tbl := List.mem_of_getElem? (i := 597) (by decide +kernel)
theorem im_X11_meet : Cond.instanceMethod yX11_meet ∈ lw_tbl := List.mem_of_getElem? (i := 738) (by decide +kernel)
theorem im_X11_next : Cond.instanceMethod yX11_next ∈ lw_tbl := List.mem_of_getElem? (i := 866) (by decide +kernel)
theorem im_X11_party : Cond.instanceMethod yX11_party ∈ lw_tbl := List.mem_of_getElem? (i := 747) (by decide +kernel)
theorem im_X11_place : Cond.instanceMethod yX11_place ∈ lw_tbl := List.mem_of_getElem? (i := 529) (by decide +kernel)
theorem im_X11_placeOf : Cond.instanceMethod yX11_placeOf ∈ lw_tbl := List.mem_of_getElem? (i := 548) (by decide +kernel)
theorem im_X11_plain : Cond.instanceMethod yX11_plain ∈ lw_tbl := List.mem_of_getElem? (i := 379) (by decide +kernel)
theorem im_X11_prove : Cond.instanceMethod yX11_prove ∈ lw_tbl := List.mem_of_getElem? (i := 910) (by decide +kernel)
theorem im_X11_put : Cond.instanceMethod yX11_put ∈ lw_tbl := List.mem_of_getElem? (i := 937) (by decide +kernel)
theorem im_X11_rain : Cond.instanceMethod yX11_rain ∈ lw_tbl := List.mem_of_getElem? (i := 570) (by decide +kernel)
theorem im_X11_round : Cond.instanceMethod yX11_round ∈ lw_tbl := List.mem_of_getElem? (i := 757) (by decide +kernel)
theorem im_X11_row : Cond.instanceMethod yX11_row ∈ lw_tbl := List.mem_of_getElem? (i := 914) (by decide +kernel)
theorem im_X11_rule : Cond.instanceMethod yX11_rule ∈ lw_tbl := List.mem_of_getElem? (i := 774) (by decide +kernel)
theorem im_X11_ruleOf : Cond.instanceMethod yX11_ruleOf ∈ lw_tbl := List.mem_of_getElem? (i := 858) (by decide +kernel)
theorem im_X11_set : Cond.instanceMethod yX11_set ∈ lw_tbl := List.mem_of_getElem? (i := 564) (by decide +kernel)
theorem im_X11_sheet : Cond.instanceMethod yX11_sheet ∈ lw_tbl := List.mem_of_getElem? (i := 930) (by decide +kernel)
theorem im_X11_shelf : Cond.instanceMethod yX11_shelf ∈ lw_tbl := List.mem_of_getElem? (i := 948) (by decide +kernel)
theorem im_X11_stuck : Cond.instanceMethod yX11_stuck ∈ lw_tbl := List.mem_of_getElem? (i := 656) (by decide +kernel)
theorem im_X11_surest : Cond.instanceMethod yX11_surest ∈ lw_tbl := List.mem_of_getElem? (i := 699) (by decide +kernel)
theorem im_X11_taken : Cond.instanceMethod yX11_taken ∈ lw_tbl := List.mem_of_getElem? (i := 960) (by decide +kernel)
theorem im_X11_trace : Cond.instanceMethod yX11_trace ∈ lw_tbl := List.mem_of_getElem? (i := 1075) (by decide +kernel)
theorem im_X11_way : Cond.instanceMethod yX11_way ∈ lw_tbl := List.mem_of_getElem? (i := 538) (by decide +kernel)
theorem im_X11_wayOf : Cond.instanceMethod yX11_wayOf ∈ lw_tbl := List.mem_of_getElem? (i := 552) (by decide +kernel)
theorem im_X12_act : Cond.instanceMethod yX12_act ∈ lw_tbl := List.mem_of_getElem? (i := 1601) (by decide +kernel)
theorem im_X12_again : Cond.instanceMethod yX12_again ∈ lw_tbl := List.mem_of_getElem? (i := 1665) (by decide +kernel)
theorem im_X12_alterRow : Cond.instanceMethod yX12_alterRow ∈ lw_tbl := List.mem_of_getElem? (i := 1562) (by decide +kernel)
theorem im_X12_best : Cond.instanceMethod yX12_best ∈ lw_tbl := List.mem_of_getElem? (i := 1436) (by decide +kernel)
theorem im_X12_city : Cond.instanceMethod yX12_city ∈ lw_tbl := List.mem_of_getElem? (i := 1374) (by decide +kernel)
theorem im_X12_cityOf : Cond.instanceMethod yX12_cityOf ∈ lw_tbl := List.mem_of_getElem? (i := 1378) (by decide +kernel)
theorem im_X12_does : Cond.instanceMethod yX12_does ∈ lw_tbl := List.mem_of_getElem? (i := 1420) (by decide +kernel)
theorem im_X12_far : Cond.instanceMethod yX12_far ∈ lw_tbl := List.mem_of_getElem? (i := 1478) (by decide +kernel)
theorem im_X12_feed : Cond.instanceMethod yX12_feed ∈ lw_tbl := List.mem_of_getElem? (i := 1257) (by decide +kernel)
theorem im_X12_follow : Cond.instanceMethod yX12_follow ∈ lw_tbl := List.mem_of_getElem? (i := 1546) (by decide +kernel)
theorem im_X12_gate : Cond.instanceMethod yX12_gate ∈ lw_tbl := List.mem_of_getElem? (i := 1498) (by decide +kernel)
theorem im_X12_item : Cond.instanceMethod yX12_item ∈ lw_tbl := List.mem_of_getElem? (i := 1578) (by decide +kernel)
theorem im_X12_judge : Cond.instanceMethod yX12_judge ∈ lw_tbl := List.mem_of_getElem? (i := 1566) (by decide +kernel)
theorem im_X12_keep : Cond.instanceMethod yX12_keep ∈ lw_tbl := List.mem_of_getElem? (i := 1653) (by decide +kernel)
theorem im_X12_last : Cond.instanceMethod yX12_last ∈ lw_tbl := List.mem_of_getElem? (i := 1447) (by decide +kernel)
theorem im_X12_light : Cond.instanceMethod yX12_light ∈ lw_tbl := List.mem_of_getElem? (i := 1474) (by decide +kernel)
theorem im_X12_many : Cond.instanceMethod yX12_many ∈ lw_tbl := List.mem_of_getElem? (i := 1649) (by decide +kernel)
theorem im_X12_may : Cond.instanceMethod yX12_may ∈ lw_tbl := List.mem_of_getElem? (i := 1389) (by decide +kernel)
theorem im_X12_meet : Cond.instanceMethod yX12_meet ∈ lw_tbl := List.mem_of_getElem? (i := 1490) (by decide +kernel)
theorem im_X12_next : Cond.instanceMethod yX12_next ∈ lw_tbl := List.mem_of_getElem? (i := 1530) (by decide +kernel)
theorem im_X12_party : Cond.instanceMethod yX12_party ∈ lw_tbl := List.mem_of_getElem? (i := 1494) (by decide +kernel)
theorem im_X12_place : Cond.instanceMethod yX12_place ∈ lw_tbl := List.mem_of_getElem? (i := 1338) (by decide +kernel)
theorem im_X12_placeOf : Cond.instanceMethod yX12_placeOf ∈ lw_tbl := List.mem_of_getElem? (i := 1354) (by decide +kernel)
theorem im_X12_plain : Cond.instanceMethod yX12_plain ∈ lw_tbl := List.mem_of_getElem? (i := 1265) (by decide +kernel)
theorem im_X12_prove : Cond.instanceMethod yX12_prove ∈ lw_tbl := List.mem_of_getElem? (i := 1550) (by decide +kernel)
theorem im_X12_put : Cond.instanceMethod yX12_put ∈ lw_tbl := List.mem_of_getElem? (i := 1574) (by decide +kernel)
theorem im_X12_rain : Cond.instanceMethod yX12_rain ∈ lw_tbl := List.mem_of_getElem? (i := 1370) (by decide +kernel)
theorem im_X12_round : Cond.instanceMethod yX12_round ∈ lw_tbl := List.mem_of_getElem? (i := 1502) (by decide +kernel)
theorem im_X12_row : Cond.instanceMethod yX12_row ∈ lw_tbl := List.mem_of_getElem? (i := 1554) (by decide +kernel)
theorem im_X12_rule : Cond.instanceMethod yX12_rule ∈ lw_tbl := List.mem_of_getElem? (i := 1517) (by decide +kernel)
theorem im_X12_ruleOf : Cond.instanceMethod yX12_ruleOf ∈ lw_tbl := List.mem_of_getElem? (i := 1522) (by decide +kernel)
theorem im_X12_set : Cond.instanceMethod yX12_set ∈ lw_tbl := List.mem_of_getElem? (i := 1366) (by decide +kernel)
theorem im_X12_sheet : Cond.instanceMethod yX12_sheet ∈ lw_tbl := List.mem_of_getElem? (i := 1570) (by decide +kernel)
theorem im_X12_shelf : Cond.instanceMethod yX12_shelf ∈ lw_tbl := List.mem_of_getElem? (i := 1582) (by decide +kernel)
theorem im_X12_stuck : Cond.instanceMethod yX12_stuck ∈ lw_tbl := List.mem_of_getElem? (i := 1432) (by decide +kernel)
theorem im_X12_surest : Cond.instanceMethod yX12_surest ∈ lw_tbl := List.mem_of_getElem? (i := 1451) (by decide +kernel)
theorem im_X12_taken : Cond.instanceMethod yX12_taken ∈ lw_tbl := List.mem_of_getElem? (i := 1590) (by decide +kernel)
theorem im_X12_trace : Cond.instanceMethod yX12_trace ∈ lw_tbl := List.mem_of_getElem? (i := 1645) (by decide +kernel)
theorem im_X12_way : Cond.instanceMethod yX12_way ∈ lw_tbl := List.mem_of_getElem? (i := 1342) (by decide +kernel)
theorem im_X12_wayOf : Cond.instanceMethod yX12_wayOf ∈ lw_tbl := List.mem_of_getElem? (i := 1358) (by decide +kernel)
theorem se_X11_act : Cond.selects yX11_act.cls yX11_act yX11_act ∈ lw_tbl := List.mem_of_getElem? (i := 983) (by decide +kernel)
theorem se_X11_again : Cond.selects yX11_again.cls yX11_again yX11_again ∈ lw_tbl := List.mem_of_getElem? (i := 1088) (by decide +kernel)
theorem se_X11_alterRow : Cond.selects yX11_alterRow.cls yX11_alterRow yX11_alterRow ∈ lw_tbl := List.mem_of_getElem? (i := 923) (by decide +kernel)
theorem se_X11_best : Cond.selects yX11_best.cls yX11_best yX11_best ∈ lw_tbl := List.mem_of_getElem? (i := 669) (by decide +kernel)
theorem se_X11_city : Cond.selects yX11_city.cls yX11_city yX11_city ∈ lw_tbl := List.mem_of_getElem? (i := 575) (by decide +kernel)
theorem se_X11_cityOf : Cond.selects yX11_cityOf.cls yX11_cityOf yX11_cityOf ∈ lw_tbl := List.mem_of_getElem? (i := 587) (by decide +kernel)
theorem se_X11_does : Cond.selects yX11_does.cls yX11_does yX11_does ∈ lw_tbl := List.mem_of_getElem? (i := 652) (by decide +kernel)
theorem se_X11_far : Cond.selects yX11_far.cls yX11_far yX11_far ∈ lw_tbl := List.mem_of_getElem? (i := 724) (by decide +kernel)
theorem se_X11_feed : Cond.selects yX11_feed.cls yX11_feed yX11_feed ∈ lw_tbl := List.mem_of_getElem? (i := 372) (by decide +kernel)
theorem se_X11_follow : Cond.selects yX11_follow.cls yX11_follow yX11_follow ∈ lw_tbl := List.mem_of_getElem? (i := 907) (by decide +kernel)
theorem se_X11_gate : Cond.selects yX11_gate.cls yX11_gate yX11_gate ∈ lw_tbl := List.mem_of_getElem? (i := 753) (by decide +kernel)
theorem se_X11_item : Cond.selects yX11_item.cls yX11_item yX11_item ∈ lw_tbl := List.mem_of_getElem? (i := 945) (by decide +kernel)
theorem se_X11_judge : Cond.selects yX11_judge.cls yX11_judge yX11_judge ∈ lw_tbl := List.mem_of_getElem? (i := 927) (by decide +kernel)
theorem se_X11_keep : Cond.selects yX11_keep.cls yX11_keep yX11_keep ∈ lw_tbl := List.mem_of_getElem? (i := 1084) (by decide +kernel)
theorem se_X11_last : Cond.selects yX11_last.cls yX11_last yX11_last ∈ lw_tbl := List.mem_of_getElem? (i := 692) (by decide +kernel)
theorem se_X11_light : Cond.selects yX11_light.cls yX11_light yX11_light ∈ lw_tbl := List.mem_of_getElem? (i := 720) (by decide +kernel)
theorem se_X11_many : Cond.selects yX11_many.cls yX11_many yX11_many ∈ lw_tbl := List.mem_of_getElem? (i := 1080) (by decide +kernel)
theorem se_X11_may : Cond.selects yX11_may.cls yX11_may yX11_may ∈ lw_tbl := List.mem_of_getElem? (i := 598) (by decide +kernel)
theorem se_X11_meet : Cond.selects yX11_meet.cls yX11_meet yX11_meet ∈ lw_tbl := List.mem_of_getElem? (i := 739) (by decide +kernel)
theorem se_X11_next : Cond.selects yX11_next.cls yX11_next yX11_next ∈ lw_tbl := List.mem_of_getElem? (i := 867) (by decide +kernel)
theorem se_X11_party : Cond.selects yX11_party.cls yX11_party yX11_party ∈ lw_tbl := List.mem_of_getElem? (i := 748) (by decide +kernel)
theorem se_X11_place : Cond.selects yX11_place.cls yX11_place yX11_place ∈ lw_tbl := List.mem_of_getElem? (i := 530) (by decide +kernel)
theorem se_X11_placeOf : Cond.selects yX11_placeOf.cls yX11_placeOf yX11_placeOf ∈ lw_tbl := List.mem_of_getElem? (i := 549) (by decide +kernel)
theorem se_X11_plain : Cond.selects yX11_plain.cls yX11_plain yX11_plain ∈ lw_tbl := List.mem_of_getElem? (i := 380) (by decide +kernel)
theorem se_X11_prove : Cond.selects yX11_prove.cls yX11_prove yX11_prove ∈ lw_tbl := List.mem_of_getElem? (i := 911) (by decide +kernel)
theorem se_X11_put : Cond.selects yX11_put.cls yX11_put yX11_put ∈ lw_tbl := List.mem_of_getElem? (i := 938) (by decide +kernel)
theorem se_X11_rain : Cond.selects yX11_rain.cls yX11_rain yX11_rain ∈ lw_tbl := List.mem_of_getElem? (i := 571) (by decide +kernel)
theorem se_X11_round : Cond.selects yX11_round.cls yX11_round yX11_round ∈ lw_tbl := List.mem_of_getElem? (i := 758) (by decide +kernel)
theorem se_X11_row : Cond.selects yX11_row.cls yX11_row yX11_row ∈ lw_tbl := List.mem_of_getElem? (i := 915) (by decide +kernel)
theorem se_X11_rule : Cond.selects yX11_rule.cls yX11_rule yX11_rule ∈ lw_tbl := List.mem_of_getElem? (i := 775) (by decide +kernel)
theorem se_X11_ruleOf : Cond.selects yX11_ruleOf.cls yX11_ruleOf yX11_ruleOf ∈ lw_tbl := List.mem_of_getElem? (i := 859) (by decide +kernel)
theorem se_X11_set : Cond.selects yX11_set.cls yX11_set yX11_set ∈ lw_tbl := List.mem_of_getElem? (i := 565) (by decide +kernel)
theorem se_X11_sheet : Cond.selects yX11_sheet.cls yX11_sheet yX11_sheet ∈ lw_tbl := List.mem_of_getElem? (i := 931) (by decide +kernel)
theorem se_X11_shelf : Cond.selects yX11_shelf.cls yX11_shelf yX11_shelf ∈ lw_tbl := List.mem_of_getElem? (i := 949) (by decide +kernel)
theorem se_X11_stuck : Cond.selects yX11_stuck.cls yX11_stuck yX11_stuck ∈ lw_tbl := List.mem_of_getElem? (i := 657) (by decide +kernel)
theorem se_X11_surest : Cond.selects yX11_surest.cls yX11_surest yX11_surest ∈ lw_tbl := List.mem_of_getElem? (i := 700) (by decide +kernel)
theorem se_X11_taken : Cond.selects yX11_taken.cls yX11_taken yX11_taken ∈ lw_tbl := List.mem_of_getElem? (i := 961) (by decide +kernel)
theorem se_X11_trace : Cond.selects yX11_trace.cls yX11_trace yX11_trace ∈ lw_tbl := List.mem_of_getElem? (i := 1076) (by decide +kernel)
theorem se_X11_way : Cond.selects yX11_way.cls yX11_way yX11_way ∈ lw_tbl := List.mem_of_getElem? (i := 539) (by decide +kernel)
theorem se_X11_wayOf : Cond.selects yX11_wayOf.cls yX11_wayOf yX11_wayOf ∈ lw_tbl := List.mem_of_getElem? (i := 553) (by decide +kernel)
theorem se_X12_act : Cond.selects yX12_act.cls yX12_act yX12_act ∈ lw_tbl := List.mem_of_getElem? (i := 1602) (by decide +kernel)
theorem se_X12_again : Cond.selects yX12_again.cls yX12_again yX12_again ∈ lw_tbl := List.mem_of_getElem? (i := 1666) (by decide +kernel)
theorem se_X12_alterRow : Cond.selects yX12_alterRow.cls yX12_alterRow yX12_alterRow ∈ lw_tbl := List.mem_of_getElem? (i := 1563) (by decide +kernel)
theorem se_X12_best : Cond.selects yX12_best.cls yX12_best yX12_best ∈ lw_tbl := List.mem_of_getElem? (i := 1437) (by decide +kernel)
theorem se_X12_city : Cond.selects yX12_city.cls yX12_city yX12_city ∈ lw_tbl := List.mem_of_getElem? (i := 1375) (by decide +kernel)
theorem se_X12_cityOf : Cond.selects yX12_cityOf.cls yX12_cityOf yX12_cityOf ∈ lw_tbl := List.mem_of_getElem? (i := 1379) (by decide +kernel)
theorem se_X12_does : Cond.selects yX12_does.cls yX12_does yX12_does ∈ lw_tbl := List.mem_of_getElem? (i := 1421) (by decide +kernel)
theorem se_X12_far : Cond.selects yX12_far.cls yX12_far yX12_far ∈ lw_tbl := List.mem_of_getElem? (i := 1479) (by decide +kernel)
theorem se_X12_feed : Cond.selects yX12_feed.cls yX12_feed yX12_feed ∈ lw_tbl := List.mem_of_getElem? (i := 1258) (by decide +kernel)
theorem se_X12_follow : Cond.selects yX12_follow.cls yX12_follow yX12_follow ∈ lw_tbl := List.mem_of_getElem? (i := 1547) (by decide +kernel)
theorem se_X12_gate : Cond.selects yX12_gate.cls yX12_gate yX12_gate ∈ lw_tbl := List.mem_of_getElem? (i := 1499) (by decide +kernel)
theorem se_X12_item : Cond.selects yX12_item.cls yX12_item yX12_item ∈ lw_tbl := List.mem_of_getElem? (i := 1579) (by decide +kernel)
theorem se_X12_judge : Cond.selects yX12_judge.cls yX12_judge yX12_judge ∈ lw_tbl := List.mem_of_getElem? (i := 1567) (by decide +kernel)
theorem se_X12_keep : Cond.selects yX12_keep.cls yX12_keep yX12_keep ∈ lw_tbl := List.mem_of_getElem? (i := 1654) (by decide +kernel)
theorem se_X12_last : Cond.selects yX12_last.cls yX12_last yX12_last ∈ lw_tbl := List.mem_of_getElem? (i := 1448) (by decide +kernel)
theorem se_X12_light : Cond.selects yX12_light.cls yX12_light yX12_light ∈ lw_tbl := List.mem_of_getElem? (i := 1475) (by decide +kernel)
theorem se_X12_many : Cond.selects yX12_many.cls yX12_many yX12_many ∈ lw_tbl := List.mem_of_getElem? (i := 1650) (by decide +kernel)
theorem se_X12_may : Cond.selects yX12_may.cls yX12_may yX12_may ∈ lw_tbl := List.mem_of_getElem? (i := 1390) (by decide +kernel)
theorem se_X12_meet : Cond.selects yX12_meet.cls yX12_meet yX12_meet ∈ lw_tbl := List.mem_of_getElem? (i := 1491) (by decide +kernel)
theorem se_X12_next : Cond.selects yX12_next.cls yX12_next yX12_next ∈ lw_tbl := List.mem_of_getElem? (i := 1531) (by decide +kernel)
theorem se_X12_party : Cond.selects yX12_party.cls yX12_party yX12_party ∈ lw_tbl := List.mem_of_getElem? (i := 1495) (by decide +kernel)
theorem se_X12_place : Cond.selects yX12_place.cls yX12_place yX12_place ∈ lw_tbl := List.mem_of_getElem? (i := 1339) (by decide +kernel)
theorem se_X12_placeOf : Cond.selects yX12_placeOf.cls yX12_placeOf yX12_placeOf ∈ lw_tbl := List.mem_of_getElem? (i := 1355) (by decide +kernel)
theorem se_X12_plain : Cond.selects yX12_plain.cls yX12_plain yX12_plain ∈ lw_tbl := List.mem_of_getElem? (i := 1266) (by decide +kernel)
theorem se_X12_prove : Cond.selects yX12_prove.cls yX12_prove yX12_prove ∈ lw_tbl := List.mem_of_getElem? (i := 1551) (by decide +kernel)
theorem se_X12_put : Cond.selects yX12_put.cls yX12_put yX12_put ∈ lw_tbl := List.mem_of_getElem? (i := 1575) (by decide +kernel)
theorem se_X12_rain : Cond.selects yX12_rain.cls yX12_rain yX12_rain ∈ lw_tbl := List.mem_of_getElem? (i := 1371) (by decide +kernel)
theorem se_X12_round : Cond.selects yX12_round.cls yX12_round yX12_round ∈ lw_tbl := List.mem_of_getElem? (i := 1503) (by decide +kernel)
theorem se_X12_row : Cond.selects yX12_row.cls yX12_row yX12_row ∈ lw_tbl := List.mem_of_getElem? (i := 1555) (by decide +kernel)
theorem se_X12_rule : Cond.selects yX12_rule.cls yX12_rule yX12_rule ∈ lw_tbl := List.mem_of_getElem? (i := 1518) (by decide +kernel)
theorem se_X12_ruleOf : Cond.selects yX12_ruleOf.cls yX12_ruleOf yX12_ruleOf ∈ lw_tbl := List.mem_of_getElem? (i := 1523) (by decide +kernel)
theorem se_X12_set : Cond.selects yX12_set.cls yX12_set yX12_set ∈ lw_tbl := List.mem_of_getElem? (i := 1367) (by decide +kernel)
theorem se_X12_sheet : Cond.selects yX12_sheet.cls yX12_sheet yX12_sheet ∈ lw_tbl := List.mem_of_getElem? (i := 1571) (by decide +kernel)
theorem se_X12_shelf : Cond.selects yX12_shelf.cls yX12_shelf yX12_shelf ∈ lw_tbl := List.mem_of_getElem? (i := 1583) (by decide +kernel)
theorem se_X12_stuck : Cond.selects yX12_stuck.cls yX12_stuck yX12_stuck ∈ lw_tbl := List.mem_of_getElem? (i := 1433) (by decide +kernel)
theorem se_X12_surest : Cond.selects yX12_surest.cls yX12_surest yX12_surest ∈ lw_tbl := List.mem_of_getElem? (i := 1452) (by decide +kernel)
theorem se_X12_taken : Cond.selects yX12_taken.cls yX12_taken yX12_taken ∈ lw_tbl := List.mem_of_getElem? (i := 1591) (by decide +kernel)
theorem se_X12_trace : Cond.selects yX12_trace.cls yX12_trace yX12_trace ∈ lw_tbl := List.mem_of_getElem? (i := 1646) (by decide +kernel)
theorem se_X12_way : Cond.selects yX12_way.cls yX12_way yX12_way ∈ lw_tbl := List.mem_of_getElem? (i := 1343) (by decide +kernel)
theorem se_X12_wayOf : Cond.selects yX12_wayOf.cls yX12_wayOf yX12_wayOf ∈ lw_tbl := List.mem_of_getElem? (i := 1359) (by decide +kernel)
theorem ct_RL_13 : Cond.constantLong RL 13 4294967295 ∈ lw_tbl := List.mem_of_getElem? (i := 1668) (by decide +kernel)
theorem dt_L_law_0 : k_dec cL_law [(0, .new 7, 3), (3, .dup, 1), (4, .invokespecial 9, 3), (7, .astore_n 1, 1), (8, .new 10, 3), (11, .dup, 1), (12, .invokespecial 12, 3), (15, .astore_n 2, 1), (16, .iconst 0, 1), (17, .istore_n 3, 1), (18, .iload_n 3, 1), (19, .aload_n 0, 1), (20, .arraylength, 1), (21, .bipush 6, 2), (23, .isub, 1), (24, .if_icmp .gt 1430, 3), (27, .aload_n 0, 1), (28, .iload_n 3, 1), (29, .iaload, 1), (30, .bipush 63, 2), (32, .iand, 1), (33, .tableswitch 1415 0 39 #[175, 238, 251, 294, 357, 390, 423, 456, 479, 532, 555, 578, 601, 614, 647, 660, 693, 716, 749, 772, 795, 828, 861, 894, 927, 950, 983, 1006, 1039, 1082, 1095, 1138, 1181, 1224, 1267, 1300, 1343, 1366, 1389, 1402], 175), (208, .aload_n 1, 1), (209, .aload_n 0, 1), (210, .iload_n 3, 1), (211, .iconst 1, 1), (212, .iadd, 1), (213, .iaload, 1), (214, .i2l, 1), (215, .bipush 32, 2), (217, .lshl, 1), (218, .aload_n 0, 1), (219, .iload_n 3, 1), (220, .iconst 2, 1), (221, .iadd, 1), (222, .iaload, 1), (223, .i2l, 1), (224, .ldc2_w 13, 3), (227, .land, 1), (228, .lor, 1)] = true := by decide +kernel
theorem dt_L_law_1 : k_dec cL_law [(229, .aload_n 0, 1), (230, .iload_n 3, 1), (231, .iconst 3, 1), (232, .iadd, 1), (233, .iaload, 1), (234, .invokevirtual 15, 3), (237, .aload_n 2, 1), (238, .aload_n 0, 1), (239, .iload_n 3, 1), (240, .iconst 1, 1), (241, .iadd, 1), (242, .iaload, 1), (243, .i2l, 1), (244, .bipush 32, 2), (246, .lshl, 1), (247, .aload_n 0, 1), (248, .iload_n 3, 1), (249, .iconst 2, 1), (250, .iadd, 1), (251, .iaload, 1), (252, .i2l, 1), (253, .ldc2_w 13, 3), (256, .land, 1), (257, .lor, 1), (258, .aload_n 0, 1), (259, .iload_n 3, 1), (260, .iconst 3, 1), (261, .iadd, 1), (262, .iaload, 1), (263, .invokevirtual 19, 3), (266, .if_icmp .eq 1182, 3), (269, .iconst 0, 1), (270, .ireturn, 1), (271, .aload_n 1, 1), (272, .invokevirtual 20, 3), (275, .aload_n 2, 1), (276, .invokevirtual 24, 3), (279, .if_icmp .eq 1169, 3), (282, .iconst 0, 1), (283, .ireturn, 1)] = true := by decide +kernel
theorem dt_L_law_2 : k_dec cL_law [(284, .aload_n 1, 1), (285, .aload_n 0, 1), (286, .iload_n 3, 1), (287, .iconst 1, 1), (288, .iadd, 1), (289, .iaload, 1), (290, .aload_n 0, 1), (291, .iload_n 3, 1), (292, .iconst 2, 1), (293, .iadd, 1), (294, .iaload, 1), (295, .aload_n 0, 1), (296, .iload_n 3, 1), (297, .iconst 3, 1), (298, .iadd, 1), (299, .iaload, 1), (300, .invokevirtual 25, 3), (303, .aload_n 2, 1), (304, .aload_n 0, 1), (305, .iload_n 3, 1), (306, .iconst 1, 1), (307, .iadd, 1), (308, .iaload, 1), (309, .aload_n 0, 1), (310, .iload_n 3, 1), (311, .iconst 2, 1), (312, .iadd, 1), (313, .iaload, 1), (314, .aload_n 0, 1), (315, .iload_n 3, 1), (316, .iconst 3, 1), (317, .iadd, 1), (318, .iaload, 1), (319, .invokevirtual 29, 3), (322, .if_icmp .eq 1126, 3), (325, .iconst 0, 1), (326, .ireturn, 1), (327, .aload_n 1, 1), (328, .aload_n 0, 1), (329, .iload_n 3, 1)] = true := by decide +kernel
theorem dt_L_law_3 : k_dec cL_law [(330, .iconst 1, 1), (331, .iadd, 1), (332, .iaload, 1), (333, .aload_n 0, 1), (334, .iload_n 3, 1), (335, .iconst 2, 1), (336, .iadd, 1), (337, .iaload, 1), (338, .aload_n 0, 1), (339, .iload_n 3, 1), (340, .iconst 3, 1), (341, .iadd, 1), (342, .iaload, 1), (343, .aload_n 0, 1), (344, .iload_n 3, 1), (345, .iconst 4, 1), (346, .iadd, 1), (347, .iaload, 1), (348, .aload_n 0, 1), (349, .iload_n 3, 1), (350, .iconst 5, 1), (351, .iadd, 1), (352, .iaload, 1), (353, .invokevirtual 30, 3), (356, .aload_n 2, 1), (357, .aload_n 0, 1), (358, .iload_n 3, 1), (359, .iconst 1, 1), (360, .iadd, 1), (361, .iaload, 1), (362, .aload_n 0, 1), (363, .iload_n 3, 1), (364, .iconst 2, 1), (365, .iadd, 1), (366, .iaload, 1), (367, .aload_n 0, 1), (368, .iload_n 3, 1), (369, .iconst 3, 1), (370, .iadd, 1), (371, .iaload, 1)] = true := by decide +kernel
theorem dt_L_law_4 : k_dec cL_law [(372, .aload_n 0, 1), (373, .iload_n 3, 1), (374, .iconst 4, 1), (375, .iadd, 1), (376, .iaload, 1), (377, .aload_n 0, 1), (378, .iload_n 3, 1), (379, .iconst 5, 1), (380, .iadd, 1), (381, .iaload, 1), (382, .invokevirtual 34, 3), (385, .if_icmp .eq 1063, 3), (388, .iconst 0, 1), (389, .ireturn, 1), (390, .aload_n 1, 1), (391, .aload_n 0, 1), (392, .iload_n 3, 1), (393, .iconst 1, 1), (394, .iadd, 1), (395, .iaload, 1), (396, .aload_n 0, 1), (397, .iload_n 3, 1), (398, .iconst 2, 1), (399, .iadd, 1), (400, .iaload, 1), (401, .invokevirtual 35, 3), (404, .aload_n 2, 1), (405, .aload_n 0, 1), (406, .iload_n 3, 1), (407, .iconst 1, 1), (408, .iadd, 1), (409, .iaload, 1), (410, .aload_n 0, 1), (411, .iload_n 3, 1), (412, .iconst 2, 1), (413, .iadd, 1), (414, .iaload, 1), (415, .invokevirtual 39, 3), (418, .if_icmp .eq 1030, 3), (421, .iconst 0, 1)] = true := by decide +kernel
theorem dt_L_law_5 : k_dec cL_law [(422, .ireturn, 1), (423, .aload_n 1, 1), (424, .aload_n 0, 1), (425, .iload_n 3, 1), (426, .iconst 1, 1), (427, .iadd, 1), (428, .iaload, 1), (429, .aload_n 0, 1), (430, .iload_n 3, 1), (431, .iconst 2, 1), (432, .iadd, 1), (433, .iaload, 1), (434, .invokevirtual 40, 3), (437, .aload_n 2, 1), (438, .aload_n 0, 1), (439, .iload_n 3, 1), (440, .iconst 1, 1), (441, .iadd, 1), (442, .iaload, 1), (443, .aload_n 0, 1), (444, .iload_n 3, 1), (445, .iconst 2, 1), (446, .iadd, 1), (447, .iaload, 1), (448, .invokevirtual 43, 3), (451, .if_icmp .eq 997, 3), (454, .iconst 0, 1), (455, .ireturn, 1), (456, .aload_n 1, 1), (457, .aload_n 0, 1), (458, .iload_n 3, 1), (459, .iconst 1, 1), (460, .iadd, 1), (461, .iaload, 1), (462, .aload_n 0, 1), (463, .iload_n 3, 1), (464, .iconst 2, 1), (465, .iadd, 1), (466, .iaload, 1), (467, .invokevirtual 44, 3)] = true := by decide +kernel
theorem dt_L_law_6 : k_dec cL_law [(470, .aload_n 2, 1), (471, .aload_n 0, 1), (472, .iload_n 3, 1), (473, .iconst 1, 1), (474, .iadd, 1), (475, .iaload, 1), (476, .aload_n 0, 1), (477, .iload_n 3, 1), (478, .iconst 2, 1), (479, .iadd, 1), (480, .iaload, 1), (481, .invokevirtual 47, 3), (484, .if_icmp .eq 964, 3), (487, .iconst 0, 1), (488, .ireturn, 1), (489, .aload_n 1, 1), (490, .aload_n 0, 1), (491, .iload_n 3, 1), (492, .iconst 1, 1), (493, .iadd, 1), (494, .iaload, 1), (495, .invokevirtual 48, 3), (498, .aload_n 2, 1), (499, .aload_n 0, 1), (500, .iload_n 3, 1), (501, .iconst 1, 1), (502, .iadd, 1), (503, .iaload, 1), (504, .invokevirtual 52, 3), (507, .if_icmp .eq 941, 3), (510, .iconst 0, 1), (511, .ireturn, 1), (512, .aload_n 1, 1), (513, .aload_n 0, 1), (514, .iload_n 3, 1), (515, .iconst 1, 1), (516, .iadd, 1), (517, .iaload, 1), (518, .aload_n 0, 1), (519, .iload_n 3, 1)] = true := by decide +kernel
theorem dt_L_law_7 : k_dec cL_law [(520, .iconst 2, 1), (521, .iadd, 1), (522, .iaload, 1), (523, .aload_n 0, 1), (524, .iload_n 3, 1), (525, .iconst 3, 1), (526, .iadd, 1), (527, .iaload, 1), (528, .aload_n 0, 1), (529, .iload_n 3, 1), (530, .iconst 4, 1), (531, .iadd, 1), (532, .iaload, 1), (533, .invokevirtual 53, 3), (536, .aload_n 2, 1), (537, .aload_n 0, 1), (538, .iload_n 3, 1), (539, .iconst 1, 1), (540, .iadd, 1), (541, .iaload, 1), (542, .aload_n 0, 1), (543, .iload_n 3, 1), (544, .iconst 2, 1), (545, .iadd, 1), (546, .iaload, 1), (547, .aload_n 0, 1), (548, .iload_n 3, 1), (549, .iconst 3, 1), (550, .iadd, 1), (551, .iaload, 1), (552, .aload_n 0, 1), (553, .iload_n 3, 1), (554, .iconst 4, 1), (555, .iadd, 1), (556, .iaload, 1), (557, .invokevirtual 57, 3), (560, .if_icmp .eq 888, 3), (563, .iconst 0, 1), (564, .ireturn, 1), (565, .aload_n 1, 1)] = true := by decide +kernel
theorem dt_L_law_8 : k_dec cL_law [(566, .aload_n 0, 1), (567, .iload_n 3, 1), (568, .iconst 1, 1), (569, .iadd, 1), (570, .iaload, 1), (571, .invokevirtual 58, 3), (574, .aload_n 2, 1), (575, .aload_n 0, 1), (576, .iload_n 3, 1), (577, .iconst 1, 1), (578, .iadd, 1), (579, .iaload, 1), (580, .invokevirtual 61, 3), (583, .if_icmp .eq 865, 3), (586, .iconst 0, 1), (587, .ireturn, 1), (588, .aload_n 1, 1), (589, .aload_n 0, 1), (590, .iload_n 3, 1), (591, .iconst 1, 1), (592, .iadd, 1), (593, .iaload, 1), (594, .invokevirtual 62, 3), (597, .aload_n 2, 1), (598, .aload_n 0, 1), (599, .iload_n 3, 1), (600, .iconst 1, 1), (601, .iadd, 1), (602, .iaload, 1), (603, .invokevirtual 65, 3), (606, .if_icmp .eq 842, 3), (609, .iconst 0, 1), (610, .ireturn, 1), (611, .aload_n 1, 1), (612, .aload_n 0, 1), (613, .iload_n 3, 1), (614, .iconst 1, 1), (615, .iadd, 1), (616, .iaload, 1), (617, .invokevirtual 66, 3)] = true := by decide +kernel
theorem dt_L_law_9 : k_dec cL_law [(620, .aload_n 2, 1), (621, .aload_n 0, 1), (622, .iload_n 3, 1), (623, .iconst 1, 1), (624, .iadd, 1), (625, .iaload, 1), (626, .invokevirtual 69, 3), (629, .if_icmp .eq 819, 3), (632, .iconst 0, 1), (633, .ireturn, 1), (634, .aload_n 1, 1), (635, .invokevirtual 70, 3), (638, .aload_n 2, 1), (639, .invokevirtual 73, 3), (642, .if_icmp .eq 806, 3), (645, .iconst 0, 1), (646, .ireturn, 1), (647, .aload_n 1, 1), (648, .aload_n 0, 1), (649, .iload_n 3, 1), (650, .iconst 1, 1), (651, .iadd, 1), (652, .iaload, 1), (653, .aload_n 0, 1), (654, .iload_n 3, 1), (655, .iconst 2, 1), (656, .iadd, 1), (657, .iaload, 1), (658, .invokevirtual 74, 3), (661, .aload_n 2, 1), (662, .aload_n 0, 1), (663, .iload_n 3, 1), (664, .iconst 1, 1), (665, .iadd, 1), (666, .iaload, 1), (667, .aload_n 0, 1), (668, .iload_n 3, 1), (669, .iconst 2, 1), (670, .iadd, 1), (671, .iaload, 1)] = true := by decide +kernel
theorem dt_L_law_10 : k_dec cL_law [(672, .invokevirtual 77, 3), (675, .if_icmp .eq 773, 3), (678, .iconst 0, 1), (679, .ireturn, 1), (680, .aload_n 1, 1), (681, .invokevirtual 78, 3), (684, .aload_n 2, 1), (685, .invokevirtual 81, 3), (688, .if_icmp .eq 760, 3), (691, .iconst 0, 1), (692, .ireturn, 1), (693, .aload_n 1, 1), (694, .aload_n 0, 1), (695, .iload_n 3, 1), (696, .iconst 1, 1), (697, .iadd, 1), (698, .iaload, 1), (699, .aload_n 0, 1), (700, .iload_n 3, 1), (701, .iconst 2, 1), (702, .iadd, 1), (703, .iaload, 1), (704, .invokevirtual 82, 3), (707, .aload_n 2, 1), (708, .aload_n 0, 1), (709, .iload_n 3, 1), (710, .iconst 1, 1), (711, .iadd, 1), (712, .iaload, 1), (713, .aload_n 0, 1), (714, .iload_n 3, 1), (715, .iconst 2, 1), (716, .iadd, 1), (717, .iaload, 1), (718, .invokevirtual 85, 3), (721, .if_icmp .eq 727, 3), (724, .iconst 0, 1), (725, .ireturn, 1), (726, .aload_n 1, 1), (727, .aload_n 0, 1)] = true := by decide +kernel
theorem dt_L_law_11 : k_dec cL_law [(728, .iload_n 3, 1), (729, .iconst 1, 1), (730, .iadd, 1), (731, .iaload, 1), (732, .invokevirtual 86, 3), (735, .aload_n 2, 1), (736, .aload_n 0, 1), (737, .iload_n 3, 1), (738, .iconst 1, 1), (739, .iadd, 1), (740, .iaload, 1), (741, .invokevirtual 89, 3), (744, .if_icmp .eq 704, 3), (747, .iconst 0, 1), (748, .ireturn, 1), (749, .aload_n 1, 1), (750, .aload_n 0, 1), (751, .iload_n 3, 1), (752, .iconst 1, 1), (753, .iadd, 1), (754, .iaload, 1), (755, .aload_n 0, 1), (756, .iload_n 3, 1), (757, .iconst 2, 1), (758, .iadd, 1), (759, .iaload, 1), (760, .invokevirtual 90, 3), (763, .aload_n 2, 1), (764, .aload_n 0, 1), (765, .iload_n 3, 1), (766, .iconst 1, 1), (767, .iadd, 1), (768, .iaload, 1), (769, .aload_n 0, 1), (770, .iload_n 3, 1), (771, .iconst 2, 1), (772, .iadd, 1), (773, .iaload, 1), (774, .invokevirtual 93, 3), (777, .if_icmp .eq 671, 3)] = true := by decide +kernel
theorem dt_L_law_12 : k_dec cL_law [(780, .iconst 0, 1), (781, .ireturn, 1), (782, .aload_n 1, 1), (783, .aload_n 0, 1), (784, .iload_n 3, 1), (785, .iconst 1, 1), (786, .iadd, 1), (787, .iaload, 1), (788, .invokevirtual 94, 3), (791, .aload_n 2, 1), (792, .aload_n 0, 1), (793, .iload_n 3, 1), (794, .iconst 1, 1), (795, .iadd, 1), (796, .iaload, 1), (797, .invokevirtual 97, 3), (800, .if_icmp .eq 648, 3), (803, .iconst 0, 1), (804, .ireturn, 1), (805, .aload_n 1, 1), (806, .aload_n 0, 1), (807, .iload_n 3, 1), (808, .iconst 1, 1), (809, .iadd, 1), (810, .iaload, 1), (811, .invokevirtual 98, 3), (814, .aload_n 2, 1), (815, .aload_n 0, 1), (816, .iload_n 3, 1), (817, .iconst 1, 1), (818, .iadd, 1), (819, .iaload, 1), (820, .invokevirtual 101, 3), (823, .if_icmp .eq 625, 3), (826, .iconst 0, 1), (827, .ireturn, 1), (828, .aload_n 1, 1), (829, .aload_n 0, 1), (830, .iload_n 3, 1), (831, .iconst 1, 1)] = true := by decide +kernel
theorem dt_L_law_13 : k_dec cL_law [(832, .iadd, 1), (833, .iaload, 1), (834, .aload_n 0, 1), (835, .iload_n 3, 1), (836, .iconst 2, 1), (837, .iadd, 1), (838, .iaload, 1), (839, .invokevirtual 102, 3), (842, .aload_n 2, 1), (843, .aload_n 0, 1), (844, .iload_n 3, 1), (845, .iconst 1, 1), (846, .iadd, 1), (847, .iaload, 1), (848, .aload_n 0, 1), (849, .iload_n 3, 1), (850, .iconst 2, 1), (851, .iadd, 1), (852, .iaload, 1), (853, .invokevirtual 105, 3), (856, .if_icmp .eq 592, 3), (859, .iconst 0, 1), (860, .ireturn, 1), (861, .aload_n 1, 1), (862, .aload_n 0, 1), (863, .iload_n 3, 1), (864, .iconst 1, 1), (865, .iadd, 1), (866, .iaload, 1), (867, .aload_n 0, 1), (868, .iload_n 3, 1), (869, .iconst 2, 1), (870, .iadd, 1), (871, .iaload, 1), (872, .invokevirtual 106, 3), (875, .aload_n 2, 1), (876, .aload_n 0, 1), (877, .iload_n 3, 1), (878, .iconst 1, 1), (879, .iadd, 1)] = true := by decide +kernel
theorem dt_L_law_14 : k_dec cL_law [(880, .iaload, 1), (881, .aload_n 0, 1), (882, .iload_n 3, 1), (883, .iconst 2, 1), (884, .iadd, 1), (885, .iaload, 1), (886, .invokevirtual 109, 3), (889, .if_icmp .eq 559, 3), (892, .iconst 0, 1), (893, .ireturn, 1), (894, .aload_n 1, 1), (895, .aload_n 0, 1), (896, .iload_n 3, 1), (897, .iconst 1, 1), (898, .iadd, 1), (899, .iaload, 1), (900, .aload_n 0, 1), (901, .iload_n 3, 1), (902, .iconst 2, 1), (903, .iadd, 1), (904, .iaload, 1), (905, .invokevirtual 110, 3), (908, .aload_n 2, 1), (909, .aload_n 0, 1), (910, .iload_n 3, 1), (911, .iconst 1, 1), (912, .iadd, 1), (913, .iaload, 1), (914, .aload_n 0, 1), (915, .iload_n 3, 1), (916, .iconst 2, 1), (917, .iadd, 1), (918, .iaload, 1), (919, .invokevirtual 113, 3), (922, .if_icmp .eq 526, 3), (925, .iconst 0, 1), (926, .ireturn, 1), (927, .aload_n 1, 1), (928, .aload_n 0, 1), (929, .iload_n 3, 1)] = true := by decide +kernel
theorem dt_L_law_15 : k_dec cL_law [(930, .iconst 1, 1), (931, .iadd, 1), (932, .iaload, 1), (933, .aload_n 0, 1), (934, .iload_n 3, 1), (935, .iconst 2, 1), (936, .iadd, 1), (937, .iaload, 1), (938, .invokevirtual 114, 3), (941, .aload_n 2, 1), (942, .aload_n 0, 1), (943, .iload_n 3, 1), (944, .iconst 1, 1), (945, .iadd, 1), (946, .iaload, 1), (947, .aload_n 0, 1), (948, .iload_n 3, 1), (949, .iconst 2, 1), (950, .iadd, 1), (951, .iaload, 1), (952, .invokevirtual 117, 3), (955, .if_icmp .eq 493, 3), (958, .iconst 0, 1), (959, .ireturn, 1), (960, .aload_n 1, 1), (961, .aload_n 0, 1), (962, .iload_n 3, 1), (963, .iconst 1, 1), (964, .iadd, 1), (965, .iaload, 1), (966, .invokevirtual 118, 3), (969, .aload_n 2, 1), (970, .aload_n 0, 1), (971, .iload_n 3, 1), (972, .iconst 1, 1), (973, .iadd, 1), (974, .iaload, 1), (975, .invokevirtual 121, 3), (978, .if_icmp .eq 470, 3), (981, .iconst 0, 1)] = true := by decide +kernel
theorem dt_L_law_16 : k_dec cL_law [(982, .ireturn, 1), (983, .aload_n 1, 1), (984, .aload_n 0, 1), (985, .iload_n 3, 1), (986, .iconst 1, 1), (987, .iadd, 1), (988, .iaload, 1), (989, .aload_n 0, 1), (990, .iload_n 3, 1), (991, .iconst 2, 1), (992, .iadd, 1), (993, .iaload, 1), (994, .invokevirtual 122, 3), (997, .aload_n 2, 1), (998, .aload_n 0, 1), (999, .iload_n 3, 1), (1000, .iconst 1, 1), (1001, .iadd, 1), (1002, .iaload, 1), (1003, .aload_n 0, 1), (1004, .iload_n 3, 1), (1005, .iconst 2, 1), (1006, .iadd, 1), (1007, .iaload, 1), (1008, .invokevirtual 125, 3), (1011, .if_icmp .eq 437, 3), (1014, .iconst 0, 1), (1015, .ireturn, 1), (1016, .aload_n 1, 1), (1017, .aload_n 0, 1), (1018, .iload_n 3, 1), (1019, .iconst 1, 1), (1020, .iadd, 1), (1021, .iaload, 1), (1022, .invokevirtual 126, 3), (1025, .aload_n 2, 1), (1026, .aload_n 0, 1), (1027, .iload_n 3, 1), (1028, .iconst 1, 1), (1029, .iadd, 1)] = true := by decide +kernel
theorem dt_L_law_17 : k_dec cL_law [(1030, .iaload, 1), (1031, .invokevirtual 129, 3), (1034, .if_icmp .eq 414, 3), (1037, .iconst 0, 1), (1038, .ireturn, 1), (1039, .aload_n 1, 1), (1040, .aload_n 0, 1), (1041, .iload_n 3, 1), (1042, .iconst 1, 1), (1043, .iadd, 1), (1044, .iaload, 1), (1045, .aload_n 0, 1), (1046, .iload_n 3, 1), (1047, .iconst 2, 1), (1048, .iadd, 1), (1049, .iaload, 1), (1050, .invokevirtual 130, 3), (1053, .aload_n 2, 1), (1054, .aload_n 0, 1), (1055, .iload_n 3, 1), (1056, .iconst 1, 1), (1057, .iadd, 1), (1058, .iaload, 1), (1059, .aload_n 0, 1), (1060, .iload_n 3, 1), (1061, .iconst 2, 1), (1062, .iadd, 1), (1063, .iaload, 1), (1064, .invokevirtual 133, 3), (1067, .if_icmp .eq 381, 3), (1070, .iconst 0, 1), (1071, .ireturn, 1), (1072, .aload_n 1, 1), (1073, .aload_n 0, 1), (1074, .iload_n 3, 1), (1075, .iconst 1, 1), (1076, .iadd, 1), (1077, .iaload, 1), (1078, .aload_n 0, 1), (1079, .iload_n 3, 1)] = true := by decide +kernel
theorem dt_L_law_18 : k_dec cL_law [(1080, .iconst 2, 1), (1081, .iadd, 1), (1082, .iaload, 1), (1083, .aload_n 0, 1), (1084, .iload_n 3, 1), (1085, .iconst 3, 1), (1086, .iadd, 1), (1087, .iaload, 1), (1088, .invokevirtual 134, 3), (1091, .aload_n 2, 1), (1092, .aload_n 0, 1), (1093, .iload_n 3, 1), (1094, .iconst 1, 1), (1095, .iadd, 1), (1096, .iaload, 1), (1097, .aload_n 0, 1), (1098, .iload_n 3, 1), (1099, .iconst 2, 1), (1100, .iadd, 1), (1101, .iaload, 1), (1102, .aload_n 0, 1), (1103, .iload_n 3, 1), (1104, .iconst 3, 1), (1105, .iadd, 1), (1106, .iaload, 1), (1107, .invokevirtual 137, 3), (1110, .if_icmp .eq 338, 3), (1113, .iconst 0, 1), (1114, .ireturn, 1), (1115, .aload_n 1, 1), (1116, .invokevirtual 138, 3), (1119, .aload_n 2, 1), (1120, .invokevirtual 141, 3), (1123, .if_icmp .eq 325, 3), (1126, .iconst 0, 1), (1127, .ireturn, 1), (1128, .aload_n 1, 1), (1129, .aload_n 0, 1), (1130, .iload_n 3, 1), (1131, .iconst 1, 1)] = true := by decide +kernel
theorem dt_L_law_19 : k_dec cL_law [(1132, .iadd, 1), (1133, .iaload, 1), (1134, .aload_n 0, 1), (1135, .iload_n 3, 1), (1136, .iconst 2, 1), (1137, .iadd, 1), (1138, .iaload, 1), (1139, .aload_n 0, 1), (1140, .iload_n 3, 1), (1141, .iconst 3, 1), (1142, .iadd, 1), (1143, .iaload, 1), (1144, .invokevirtual 142, 3), (1147, .aload_n 2, 1), (1148, .aload_n 0, 1), (1149, .iload_n 3, 1), (1150, .iconst 1, 1), (1151, .iadd, 1), (1152, .iaload, 1), (1153, .aload_n 0, 1), (1154, .iload_n 3, 1), (1155, .iconst 2, 1), (1156, .iadd, 1), (1157, .iaload, 1), (1158, .aload_n 0, 1), (1159, .iload_n 3, 1), (1160, .iconst 3, 1), (1161, .iadd, 1), (1162, .iaload, 1), (1163, .invokevirtual 145, 3), (1166, .if_icmp .eq 282, 3), (1169, .iconst 0, 1), (1170, .ireturn, 1), (1171, .aload_n 1, 1), (1172, .aload_n 0, 1), (1173, .iload_n 3, 1), (1174, .iconst 1, 1), (1175, .iadd, 1), (1176, .iaload, 1), (1177, .aload_n 0, 1)] = true := by decide +kernel
theorem dt_L_law_20 : k_dec cL_law [(1178, .iload_n 3, 1), (1179, .iconst 2, 1), (1180, .iadd, 1), (1181, .iaload, 1), (1182, .aload_n 0, 1), (1183, .iload_n 3, 1), (1184, .iconst 3, 1), (1185, .iadd, 1), (1186, .iaload, 1), (1187, .invokevirtual 146, 3), (1190, .aload_n 2, 1), (1191, .aload_n 0, 1), (1192, .iload_n 3, 1), (1193, .iconst 1, 1), (1194, .iadd, 1), (1195, .iaload, 1), (1196, .aload_n 0, 1), (1197, .iload_n 3, 1), (1198, .iconst 2, 1), (1199, .iadd, 1), (1200, .iaload, 1), (1201, .aload_n 0, 1), (1202, .iload_n 3, 1), (1203, .iconst 3, 1), (1204, .iadd, 1), (1205, .iaload, 1), (1206, .invokevirtual 149, 3), (1209, .if_icmp .eq 239, 3), (1212, .iconst 0, 1), (1213, .ireturn, 1), (1214, .aload_n 1, 1), (1215, .aload_n 0, 1), (1216, .iload_n 3, 1), (1217, .iconst 1, 1), (1218, .iadd, 1), (1219, .iaload, 1), (1220, .aload_n 0, 1), (1221, .iload_n 3, 1), (1222, .iconst 2, 1), (1223, .iadd, 1)] = true := by decide +kernel
theorem dt_L_law_21 : k_dec cL_law [(1224, .iaload, 1), (1225, .aload_n 0, 1), (1226, .iload_n 3, 1), (1227, .iconst 3, 1), (1228, .iadd, 1), (1229, .iaload, 1), (1230, .invokevirtual 150, 3), (1233, .aload_n 2, 1), (1234, .aload_n 0, 1), (1235, .iload_n 3, 1), (1236, .iconst 1, 1), (1237, .iadd, 1), (1238, .iaload, 1), (1239, .aload_n 0, 1), (1240, .iload_n 3, 1), (1241, .iconst 2, 1), (1242, .iadd, 1), (1243, .iaload, 1), (1244, .aload_n 0, 1), (1245, .iload_n 3, 1), (1246, .iconst 3, 1), (1247, .iadd, 1), (1248, .iaload, 1), (1249, .invokevirtual 153, 3), (1252, .if_icmp .eq 196, 3), (1255, .iconst 0, 1), (1256, .ireturn, 1), (1257, .aload_n 1, 1), (1258, .aload_n 0, 1), (1259, .iload_n 3, 1), (1260, .iconst 1, 1), (1261, .iadd, 1), (1262, .iaload, 1), (1263, .aload_n 0, 1), (1264, .iload_n 3, 1), (1265, .iconst 2, 1), (1266, .iadd, 1), (1267, .iaload, 1), (1268, .aload_n 0, 1), (1269, .iload_n 3, 1)] = true := by decide +kernel
theorem dt_L_law_22 : k_dec cL_law [(1270, .iconst 3, 1), (1271, .iadd, 1), (1272, .iaload, 1), (1273, .invokevirtual 154, 3), (1276, .aload_n 2, 1), (1277, .aload_n 0, 1), (1278, .iload_n 3, 1), (1279, .iconst 1, 1), (1280, .iadd, 1), (1281, .iaload, 1), (1282, .aload_n 0, 1), (1283, .iload_n 3, 1), (1284, .iconst 2, 1), (1285, .iadd, 1), (1286, .iaload, 1), (1287, .aload_n 0, 1), (1288, .iload_n 3, 1), (1289, .iconst 3, 1), (1290, .iadd, 1), (1291, .iaload, 1), (1292, .invokevirtual 157, 3), (1295, .if_icmp .eq 153, 3), (1298, .iconst 0, 1), (1299, .ireturn, 1), (1300, .aload_n 1, 1), (1301, .aload_n 0, 1), (1302, .iload_n 3, 1), (1303, .iconst 1, 1), (1304, .iadd, 1), (1305, .iaload, 1), (1306, .aload_n 0, 1), (1307, .iload_n 3, 1), (1308, .iconst 2, 1), (1309, .iadd, 1), (1310, .iaload, 1), (1311, .invokevirtual 158, 3), (1314, .aload_n 2, 1), (1315, .aload_n 0, 1), (1316, .iload_n 3, 1), (1317, .iconst 1, 1)] = true := by decide +kernel
theorem dt_L_law_23 : k_dec cL_law [(1318, .iadd, 1), (1319, .iaload, 1), (1320, .aload_n 0, 1), (1321, .iload_n 3, 1), (1322, .iconst 2, 1), (1323, .iadd, 1), (1324, .iaload, 1), (1325, .invokevirtual 161, 3), (1328, .if_icmp .eq 120, 3), (1331, .iconst 0, 1), (1332, .ireturn, 1), (1333, .aload_n 1, 1), (1334, .aload_n 0, 1), (1335, .iload_n 3, 1), (1336, .iconst 1, 1), (1337, .iadd, 1), (1338, .iaload, 1), (1339, .aload_n 0, 1), (1340, .iload_n 3, 1), (1341, .iconst 2, 1), (1342, .iadd, 1), (1343, .iaload, 1), (1344, .aload_n 0, 1), (1345, .iload_n 3, 1), (1346, .iconst 3, 1), (1347, .iadd, 1), (1348, .iaload, 1), (1349, .invokevirtual 162, 3), (1352, .aload_n 2, 1), (1353, .aload_n 0, 1), (1354, .iload_n 3, 1), (1355, .iconst 1, 1), (1356, .iadd, 1), (1357, .iaload, 1), (1358, .aload_n 0, 1), (1359, .iload_n 3, 1), (1360, .iconst 2, 1), (1361, .iadd, 1), (1362, .iaload, 1), (1363, .aload_n 0, 1)] = true := by decide +kernel
theorem dt_L_law_24 : k_dec cL_law [(1364, .iload_n 3, 1), (1365, .iconst 3, 1), (1366, .iadd, 1), (1367, .iaload, 1), (1368, .invokevirtual 165, 3), (1371, .if_icmp .eq 77, 3), (1374, .iconst 0, 1), (1375, .ireturn, 1), (1376, .aload_n 1, 1), (1377, .aload_n 0, 1), (1378, .iload_n 3, 1), (1379, .iconst 1, 1), (1380, .iadd, 1), (1381, .iaload, 1), (1382, .invokevirtual 166, 3), (1385, .aload_n 2, 1), (1386, .aload_n 0, 1), (1387, .iload_n 3, 1), (1388, .iconst 1, 1), (1389, .iadd, 1), (1390, .iaload, 1), (1391, .invokevirtual 169, 3), (1394, .if_icmp .eq 54, 3), (1397, .iconst 0, 1), (1398, .ireturn, 1), (1399, .aload_n 1, 1), (1400, .aload_n 0, 1), (1401, .iload_n 3, 1), (1402, .iconst 1, 1), (1403, .iadd, 1), (1404, .iaload, 1), (1405, .invokevirtual 170, 3), (1408, .aload_n 2, 1), (1409, .aload_n 0, 1), (1410, .iload_n 3, 1), (1411, .iconst 1, 1), (1412, .iadd, 1), (1413, .iaload, 1), (1414, .invokevirtual 173, 3), (1417, .if_icmp .eq 31, 3)] = true := by decide +kernel
theorem dt_L_law_25 : k_dec cL_law [(1420, .iconst 0, 1), (1421, .ireturn, 1), (1422, .aload_n 1, 1), (1423, .invokevirtual 174, 3), (1426, .aload_n 2, 1), (1427, .invokevirtual 177, 3), (1430, .if_icmp .eq 18, 3), (1433, .iconst 0, 1), (1434, .ireturn, 1), (1435, .aload_n 1, 1), (1436, .invokevirtual 178, 3), (1439, .aload_n 2, 1), (1440, .invokevirtual 181, 3), (1443, .if_icmp .eq 5, 3), (1446, .iconst 0, 1), (1447, .ireturn, 1), (1448, .iinc 3 6, 3), (1451, .goto (-1433), 3), (1454, .iconst 1, 1), (1455, .ireturn, 1)] = true := by decide +kernel
def f_law (L : Nat) (xs : Nat → Int32) : Nat → Int32 → k_M → Option (Int32 × k_M)
  | 0, _, _ => none
  | n + 1, l3, M => if ((Int32.ofNat L) - 6) < l3 then some (1, M) else rdX L xs l3 (fun v1 => tsw (v1 &&& 63) 0 40 (fun i_ => if i_ = 0 then rdX L xs (l3 + 1) (fun v2 => rdX L xs (l3 + 2) (fun v3 => rdX L xs (l3 + 3) (fun v4 => bd (f_X11_feed ((v2.toInt64 <<< ((32 : Int32).toInt64 &&& 63)) ||| (v3.toInt64 &&& 4294967295)) v4 M) (fun r5 M6 => rdX L xs (l3 + 1) (fun v7 => rdX L xs (l3 + 2) (fun v8 => rdX L xs (l3 + 3) (fun v9 => bd (f_X12_feed ((v7.toInt64 <<< ((32 : Int32).toInt64 &&& 63)) ||| (v8.toInt64 &&& 4294967295)) v9 M6) (fun r10 M11 => if r5 = r10 then f_law L xs n (l3 + 6) M11 else some (0, M11))))))))) else if i_ = 1 then bd (f_X11_plain M) (fun r12 M13 => bd (f_X12_plain M13) (fun r14 M15 => if r12 = r14 then f_law L xs n (l3 + 6) M15 else some (0, M15))) else if i_ = 2 then rdX L xs (l3 + 1) (fun v16 => rdX L xs (l3 + 2) (fun v17 => rdX L xs (l3 + 3) (fun v18 => bd (f_X11_place v16 v17 v18 M) (fun r19 M20 => rdX L xs (l3 + 1) (fun v21 => rdX L xs (l3 + 2) (fun v22 => rdX L xs (l3 + 3) (fun v23 => bd (f_X12_place v21 v22 v23 M20) (fun r24 M25 => if r19 = r24 then f_law L xs n (l3 + 6) M25 else some (0, M25))))))))) else if i_ = 3 then rdX L xs (l3 + 1) (fun v26 => rdX L xs (l3 + 2) (fun v27 => rdX L xs (l3 + 3) (fun v28 => rdX L xs (l3 + 4) (fun v29 => rdX L xs (l3 + 5) (fun v30 => bd (f_X11_way v26 v27 v28 v29 v30 M) (fun r31 M32 => rdX L xs (l3 + 1) (fun v33 => rdX L xs (l3 + 2) (fun v34 => rdX L xs (l3 + 3) (fun v35 => rdX L xs (l3 + 4) (fun v36 => rdX L xs (l3 + 5) (fun v37 => bd (f_X12_way v33 v34 v35 v36 v37 M32) (fun r38 M39 => if r31 = r38 then f_law L xs n (l3 + 6) M39 else some (0, M39))))))))))))) else if i_ = 4 then rdX L xs (l3 + 1) (fun v40 => rdX L xs (l3 + 2) (fun v41 => bd (f_X11_placeOf v40 v41 M) (fun r42 M43 => rdX L xs (l3 + 1) (fun v44 => rdX L xs (l3 + 2) (fun v45 => bd (f_X12_placeOf v44 v45 M43) (fun r46 M47 => if r42 = r46 then f_law L xs n (l3 + 6) M47 else some (0, M47))))))) else if i_ = 5 then rdX L xs (l3 + 1) (fun v48 => rdX L xs (l3 + 2) (fun v49 => bd (f_X11_wayOf v48 v49 M) (fun r50 M51 => rdX L xs (l3 + 1) (fun v52 => rdX L xs (l3 + 2) (fun v53 => bd (f_X12_wayOf v52 v53 M51) (fun r54 M55 => if r50 = r54 then f_law L xs n (l3 + 6) M55 else some (0, M55))))))) else if i_ = 6 then rdX L xs (l3 + 1) (fun v56 => rdX L xs (l3 + 2) (fun v57 => bd (f_X11_set v56 v57 M) (fun r58 M59 => rdX L xs (l3 + 1) (fun v60 => rdX L xs (l3 + 2) (fun v61 => bd (f_X12_set v60 v61 M59) (fun r62 M63 => if r58 = r62 then f_law L xs n (l3 + 6) M63 else some (0, M63))))))) else if i_ = 7 then rdX L xs (l3 + 1) (fun v64 => bd (f_X11_rain v64 M) (fun r65 M66 => rdX L xs (l3 + 1) (fun v67 => bd (f_X12_rain v67 M66) (fun r68 M69 => if r65 = r68 then f_law L xs n (l3 + 6) M69 else some (0, M69))))) else if i_ = 8 then rdX L xs (l3 + 1) (fun v70 => rdX L xs (l3 + 2) (fun v71 => rdX L xs (l3 + 3) (fun v72 => rdX L xs (l3 + 4) (fun v73 => bd (f_X11_city v70 v71 v72 v73 M) (fun r74 M75 => rdX L xs (l3 + 1) (fun v76 => rdX L xs (l3 + 2) (fun v77 => rdX L xs (l3 + 3) (fun v78 => rdX L xs (l3 + 4) (fun v79 => bd (f_X12_city v76 v77 v78 v79 M75) (fun r80 M81 => if r74 = r80 then f_law L xs n (l3 + 6) M81 else some (0, M81))))))))))) else if i_ = 9 then rdX L xs (l3 + 1) (fun v82 => bd (f_X11_cityOf v82 M) (fun r83 M84 => rdX L xs (l3 + 1) (fun v85 => bd (f_X12_cityOf v85 M84) (fun r86 M87 => if r83 = r86 then f_law L xs n (l3 + 6) M87 else some (0, M87))))) else if i_ = 10 then rdX L xs (l3 + 1) (fun v88 => bd (f_X11_may v88 M) (fun r89 M90 => rdX L xs (l3 + 1) (fun v91 => bd (f_X12_may v91 M90) (fun r92 M93 => if r89 = r92 then f_law L xs n (l3 + 6) M93 else some (0, M93))))) else if i_ = 11 then rdX L xs (l3 + 1) (fun v94 => bd (f_X11_does v94 M) (fun r95 M96 => rdX L xs (l3 + 1) (fun v97 => bd (f_X12_does v97 M96) (fun r98 M99 => if r95 = r98 then f_law L xs n (l3 + 6) M99 else some (0, M99))))) else if i_ = 12 then bd (f_X11_stuck M) (fun r100 M101 => bd (f_X12_stuck M101) (fun r102 M103 => if r100 = r102 then f_law L xs n (l3 + 6) M103 else some (0, M103))) else if i_ = 13 then rdX L xs (l3 + 1) (fun v104 => rdX L xs (l3 + 2) (fun v105 => bd (f_X11_best v104 v105 M) (fun r106 M107 => rdX L xs (l3 + 1) (fun v108 => rdX L xs (l3 + 2) (fun v109 => bd (f_X12_best v108 v109 M107) (fun r110 M111 => if r106 = r110 then f_law L xs n (l3 + 6) M111 else some (0, M111))))))) else if i_ = 14 then bd (f_X11_last M) (fun r112 M113 => bd (f_X12_last M113) (fun r114 M115 => if r112 = r114 then f_law L xs n (l3 + 6) M115 else some (0, M115))) else if i_ = 15 then rdX L xs (l3 + 1) (fun v116 => rdX L xs (l3 + 2) (fun v117 => bd (f_X11_surest v116 v117 M) (fun r118 M119 => rdX L xs (l3 + 1) (fun v120 => rdX L xs (l3 + 2) (fun v121 => bd (f_X12_surest v120 v121 M119) (fun r122 M123 => if r118 = r122 then f_law L xs n (l3 + 6) M123 else some (0, M123))))))) else if i_ = 16 then rdX L xs (l3 + 1) (fun v124 => bd (f_X11_light v124 M) (fun r125 M126 => rdX L xs (l3 + 1) (fun v127 => bd (f_X12_light v127 M126) (fun r128 M129 => if r125 = r128 then f_law L xs n (l3 + 6) M129 else some (0, M129))))) else if i_ = 17 then rdX L xs (l3 + 1) (fun v130 => rdX L xs (l3 + 2) (fun v131 => bd (f_X11_far v130 v131 M) (fun r132 M133 => rdX L xs (l3 + 1) (fun v134 => rdX L xs (l3 + 2) (fun v135 => bd (f_X12_far v134 v135 M133) (fun r136 M137 => if r132 = r136 then f_law L xs n (l3 + 6) M137 else some (0, M137))))))) else if i_ = 18 then rdX L xs (l3 + 1) (fun v138 => bd (f_X11_meet v138 M) (fun r139 M140 => rdX L xs (l3 + 1) (fun v141 => bd (f_X12_meet v141 M140) (fun r142 M143 => if r139 = r142 then f_law L xs n (l3 + 6) M143 else some (0, M143))))) else if i_ = 19 then rdX L xs (l3 + 1) (fun v144 => bd (f_X11_party v144 M) (fun r145 M146 => rdX L xs (l3 + 1) (fun v147 => bd (f_X12_party v147 M146) (fun r148 M149 => if r145 = r148 then f_law L xs n (l3 + 6) M149 else some (0, M149))))) else if i_ = 20 then rdX L xs (l3 + 1) (fun v150 => rdX L xs (l3 + 2) (fun v151 => bd (f_X11_gate v150 v151 M) (fun r152 M153 => rdX L xs (l3 + 1) (fun v154 => rdX L xs (l3 + 2) (fun v155 => bd (f_X12_gate v154 v155 M153) (fun r156 M157 => if r152 = r156 then f_law L xs n (l3 + 6) M157 else some (0, M157))))))) else if i_ = 21 then rdX L xs (l3 + 1) (fun v158 => rdX L xs (l3 + 2) (fun v159 => bd (f_X11_round v158 v159 M) (fun r160 M161 => rdX L xs (l3 + 1) (fun v162 => rdX L xs (l3 + 2) (fun v163 => bd (f_X12_round v162 v163 M161) (fun r164 M165 => if r160 = r164 then f_law L xs n (l3 + 6) M165 else some (0, M165))))))) else if i_ = 22 then rdX L xs (l3 + 1) (fun v166 => rdX L xs (l3 + 2) (fun v167 => bd (f_X11_rule v166 v167 M) (fun r168 M169 => rdX L xs (l3 + 1) (fun v170 => rdX L xs (l3 + 2) (fun v171 => bd (f_X12_rule v170 v171 M169) (fun r172 M173 => if r168 = r172 then f_law L xs n (l3 + 6) M173 else some (0, M173))))))) else if i_ = 23 then rdX L xs (l3 + 1) (fun v174 => rdX L xs (l3 + 2) (fun v175 => bd (f_X11_ruleOf v174 v175 M) (fun r176 M177 => rdX L xs (l3 + 1) (fun v178 => rdX L xs (l3 + 2) (fun v179 => bd (f_X12_ruleOf v178 v179 M177) (fun r180 M181 => if r176 = r180 then f_law L xs n (l3 + 6) M181 else some (0, M181))))))) else if i_ = 24 then rdX L xs (l3 + 1) (fun v182 => bd (f_X11_next v182 M) (fun r183 M184 => rdX L xs (l3 + 1) (fun v185 => bd (f_X12_next v185 M184) (fun r186 M187 => if r183 = r186 then f_law L xs n (l3 + 6) M187 else some (0, M187))))) else if i_ = 25 then rdX L xs (l3 + 1) (fun v188 => rdX L xs (l3 + 2) (fun v189 => bd (f_X11_follow v188 v189 M) (fun r190 M191 => rdX L xs (l3 + 1) (fun v192 => rdX L xs (l3 + 2) (fun v193 => bd (f_X12_follow v192 v193 M191) (fun r194 M195 => if r190 = r194 then f_law L xs n (l3 + 6) M195 else some (0, M195))))))) else if i_ = 26 then rdX L xs (l3 + 1) (fun v196 => bd (f_X11_prove v196 M) (fun r197 M198 => rdX L xs (l3 + 1) (fun v199 => bd (f_X12_prove v199 M198) (fun r200 M201 => if r197 = r200 then f_law L xs n (l3 + 6) M201 else some (0, M201))))) else if i_ = 27 then rdX L xs (l3 + 1) (fun v202 => rdX L xs (l3 + 2) (fun v203 => bd (f_X11_row v202 v203 M) (fun r204 M205 => rdX L xs (l3 + 1) (fun v206 => rdX L xs (l3 + 2) (fun v207 => bd (f_X12_row v206 v207 M205) (fun r208 M209 => if r204 = r208 then f_law L xs n (l3 + 6) M209 else some (0, M209))))))) else if i_ = 28 then rdX L xs (l3 + 1) (fun v210 => rdX L xs (l3 + 2) (fun v211 => rdX L xs (l3 + 3) (fun v212 => bd (f_X11_alterRow v210 v211 v212 M) (fun r213 M214 => rdX L xs (l3 + 1) (fun v215 => rdX L xs (l3 + 2) (fun v216 => rdX L xs (l3 + 3) (fun v217 => bd (f_X12_alterRow v215 v216 v217 M214) (fun r218 M219 => if r213 = r218 then f_law L xs n (l3 + 6) M219 else some (0, M219))))))))) else if i_ = 29 then bd (f_X11_judge M) (fun r220 M221 => bd (f_X12_judge M221) (fun r222 M223 => if r220 = r222 then f_law L xs n (l3 + 6) M223 else some (0, M223))) else if i_ = 30 then rdX L xs (l3 + 1) (fun v224 => rdX L xs (l3 + 2) (fun v225 => rdX L xs (l3 + 3) (fun v226 => bd (f_X11_sheet v224 v225 v226 M) (fun r227 M228 => rdX L xs (l3 + 1) (fun v229 => rdX L xs (l3 + 2) (fun v230 => rdX L xs (l3 + 3) (fun v231 => bd (f_X12_sheet v229 v230 v231 M228) (fun r232 M233 => if r227 = r232 then f_law L xs n (l3 + 6) M233 else some (0, M233))))))))) else if i_ = 31 then rdX L xs (l3 + 1) (fun v234 => rdX L xs (l3 + 2) (fun v235 => rdX L xs (l3 + 3) (fun v236 => bd (f_X11_put v234 v235 v236 M) (fun r237 M238 => rdX L xs (l3 + 1) (fun v239 => rdX L xs (l3 + 2) (fun v240 => rdX L xs (l3 + 3) (fun v241 => bd (f_X12_put v239 v240 v241 M238) (fun r242 M243 => if r237 = r242 then f_law L xs n (l3 + 6) M243 else some (0, M243))))))))) else if i_ = 32 then rdX L xs (l3 + 1) (fun v244 => rdX L xs (l3 + 2) (fun v245 => rdX L xs (l3 + 3) (fun v246 => bd (f_X11_item v244 v245 v246 M) (fun r247 M248 => rdX L xs (l3 + 1) (fun v249 => rdX L xs (l3 + 2) (fun v250 => rdX L xs (l3 + 3) (fun v251 => bd (f_X12_item v249 v250 v251 M248) (fun r252 M253 => if r247 = r252 then f_law L xs n (l3 + 6) M253 else some (0, M253))))))))) else if i_ = 33 then rdX L xs (l3 + 1) (fun v254 => rdX L xs (l3 + 2) (fun v255 => rdX L xs (l3 + 3) (fun v256 => bd (f_X11_shelf v254 v255 v256 M) (fun r257 M258 => rdX L xs (l3 + 1) (fun v259 => rdX L xs (l3 + 2) (fun v260 => rdX L xs (l3 + 3) (fun v261 => bd (f_X12_shelf v259 v260 v261 M258) (fun r262 M263 => if r257 = r262 then f_law L xs n (l3 + 6) M263 else some (0, M263))))))))) else if i_ = 34 then rdX L xs (l3 + 1) (fun v264 => rdX L xs (l3 + 2) (fun v265 => bd (f_X11_taken v264 v265 M) (fun r266 M267 => rdX L xs (l3 + 1) (fun v268 => rdX L xs (l3 + 2) (fun v269 => bd (f_X12_taken v268 v269 M267) (fun r270 M271 => if r266 = r270 then f_law L xs n (l3 + 6) M271 else some (0, M271))))))) else if i_ = 35 then rdX L xs (l3 + 1) (fun v272 => rdX L xs (l3 + 2) (fun v273 => rdX L xs (l3 + 3) (fun v274 => bd (f_X11_act v272 v273 v274 M) (fun r275 M276 => rdX L xs (l3 + 1) (fun v277 => rdX L xs (l3 + 2) (fun v278 => rdX L xs (l3 + 3) (fun v279 => bd (f_X12_act v277 v278 v279 M276) (fun r280 M281 => if r275 = r280 then f_law L xs n (l3 + 6) M281 else some (0, M281))))))))) else if i_ = 36 then rdX L xs (l3 + 1) (fun v282 => bd (f_X11_trace v282 M) (fun r283 M284 => rdX L xs (l3 + 1) (fun v285 => bd (f_X12_trace v285 M284) (fun r286 M287 => if r283 = r286 then f_law L xs n (l3 + 6) M287 else some (0, M287))))) else if i_ = 37 then rdX L xs (l3 + 1) (fun v288 => bd (f_X11_many v288 M) (fun r289 M290 => rdX L xs (l3 + 1) (fun v291 => bd (f_X12_many v291 M290) (fun r292 M293 => if r289 = r292 then f_law L xs n (l3 + 6) M293 else some (0, M293))))) else if i_ = 38 then bd (f_X11_keep M) (fun r294 M295 => bd (f_X12_keep M295) (fun r296 M297 => if r294 = r296 then f_law L xs n (l3 + 6) M297 else some (0, M297))) else if i_ = 39 then bd (f_X11_again M) (fun r298 M299 => bd (f_X12_again M299) (fun r300 M301 => if r298 = r300 then f_law L xs n (l3 + 6) M301 else some (0, M301))) else f_law L xs n (l3 + 6) M) (f_law L xs n (l3 + 6) M))
set_option maxHeartbeats 4000000 in
theorem m_law {Z : k_Z} {G : k_G} {b L : Nat} {xs : Nat → Int32} {nm : String} (C : k_C Z G RL cL_law (true, 4, 1312, 600000, 7302250) (some .boolean) nm) (hX : va_X b L xs Z.1 Z.1.heap) : ∀ (n c s : Nat), c + n ≤ 600000 → s + 3 * n ≤ 7302250 → ∀ (l3 : Int32) (M : k_M), Sm Z G emI (true, 4, 1312, 600000, 7302250) (c, s) 18 [(0, Value.ref b), (1, k_ra Z 0), (2, k_ra Z 76), (3, Value.int l3)] [] M (f_law L xs n l3 M)
  | 0, _, _, _, _, _, _ => x_none
  | n + 1, c, s, hc, hs, l3, M => by
    have ih := m_law C hX n
    show Sm Z G emI _ _ _ _ _ _ (if ((Int32.ofNat L) - 6) < l3 then some (1, M) else rdX L xs l3 (fun v1 => tsw (v1 &&& 63) 0 40 (fun i_ => if i_ = 0 then rdX L xs (l3 + 1) (fun v2 => rdX L xs (l3 + 2) (fun v3 => rdX L xs (l3 + 3) (fun v4 => bd (f_X11_feed ((v2.toInt64 <<< ((32 : Int32).toInt64 &&& 63)) ||| (v3.toInt64 &&& 4294967295)) v4 M) (fun r5 M6 => rdX L xs (l3 + 1) (fun v7 => rdX L xs (l3 + 2) (fun v8 => rdX L xs (l3 + 3) (fun v9 => bd (f_X12_feed ((v7.toInt64 <<< ((32 : Int32).toInt64 &&& 63)) ||| (v8.toInt64 &&& 4294967295)) v9 M6) (fun r10 M11 => if r5 = r10 then f_law L xs n (l3 + 6) M11 else some (0, M11))))))))) else if i_ = 1 then bd (f_X11_plain M) (fun r12 M13 => bd (f_X12_plain M13) (fun r14 M15 => if r12 = r14 then f_law L xs n (l3 + 6) M15 else some (0, M15))) else if i_ = 2 then rdX L xs (l3 + 1) (fun v16 => rdX L xs (l3 + 2) (fun v17 => rdX L xs (l3 + 3) (fun v18 => bd (f_X11_place v16 v17 v18 M) (fun r19 M20 => rdX L xs (l3 + 1) (fun v21 => rdX L xs (l3 + 2) (fun v22 => rdX L xs (l3 + 3) (fun v23 => bd (f_X12_place v21 v22 v23 M20) (fun r24 M25 => if r19 = r24 then f_law L xs n (l3 + 6) M25 else some (0, M25))))))))) else if i_ = 3 then rdX L xs (l3 + 1) (fun v26 => rdX L xs (l3 + 2) (fun v27 => rdX L xs (l3 + 3) (fun v28 => rdX L xs (l3 + 4) (fun v29 => rdX L xs (l3 + 5) (fun v30 => bd (f_X11_way v26 v27 v28 v29 v30 M) (fun r31 M32 => rdX L xs (l3 + 1) (fun v33 => rdX L xs (l3 + 2) (fun v34 => rdX L xs (l3 + 3) (fun v35 => rdX L xs (l3 + 4) (fun v36 => rdX L xs (l3 + 5) (fun v37 => bd (f_X12_way v33 v34 v35 v36 v37 M32) (fun r38 M39 => if r31 = r38 then f_law L xs n (l3 + 6) M39 else some (0, M39))))))))))))) else if i_ = 4 then rdX L xs (l3 + 1) (fun v40 => rdX L xs (l3 + 2) (fun v41 => bd (f_X11_placeOf v40 v41 M) (fun r42 M43 => rdX L xs (l3 + 1) (fun v44 => rdX L xs (l3 + 2) (fun v45 => bd (f_X12_placeOf v44 v45 M43) (fun r46 M47 => if r42 = r46 then f_law L xs n (l3 + 6) M47 else some (0, M47))))))) else if i_ = 5 then rdX L xs (l3 + 1) (fun v48 => rdX L xs (l3 + 2) (fun v49 => bd (f_X11_wayOf v48 v49 M) (fun r50 M51 => rdX L xs (l3 + 1) (fun v52 => rdX L xs (l3 + 2) (fun v53 => bd (f_X12_wayOf v52 v53 M51) (fun r54 M55 => if r50 = r54 then f_law L xs n (l3 + 6) M55 else some (0, M55))))))) else if i_ = 6 then rdX L xs (l3 + 1) (fun v56 => rdX L xs (l3 + 2) (fun v57 => bd (f_X11_set v56 v57 M) (fun r58 M59 => rdX L xs (l3 + 1) (fun v60 => rdX L xs (l3 + 2) (fun v61 => bd (f_X12_set v60 v61 M59) (fun r62 M63 => if r58 = r62 then f_law L xs n (l3 + 6) M63 else some (0, M63))))))) else if i_ = 7 then rdX L xs (l3 + 1) (fun v64 => bd (f_X11_rain v64 M) (fun r65 M66 => rdX L xs (l3 + 1) (fun v67 => bd (f_X12_rain v67 M66) (fun r68 M69 => if r65 = r68 then f_law L xs n (l3 + 6) M69 else some (0, M69))))) else if i_ = 8 then rdX L xs (l3 + 1) (fun v70 => rdX L xs (l3 + 2) (fun v71 => rdX L xs (l3 + 3) (fun v72 => rdX L xs (l3 + 4) (fun v73 => bd (f_X11_city v70 v71 v72 v73 M) (fun r74 M75 => rdX L xs (l3 + 1) (fun v76 => rdX L xs (l3 + 2) (fun v77 => rdX L xs (l3 + 3) (fun v78 => rdX L xs (l3 + 4) (fun v79 => bd (f_X12_city v76 v77 v78 v79 M75) (fun r80 M81 => if r74 = r80 then f_law L xs n (l3 + 6) M81 else some (0, M81))))))))))) else if i_ = 9 then rdX L xs (l3 + 1) (fun v82 => bd (f_X11_cityOf v82 M) (fun r83 M84 => rdX L xs (l3 + 1) (fun v85 => bd (f_X12_cityOf v85 M84) (fun r86 M87 => if r83 = r86 then f_law L xs n (l3 + 6) M87 else some (0, M87))))) else if i_ = 10 then rdX L xs (l3 + 1) (fun v88 => bd (f_X11_may v88 M) (fun r89 M90 => rdX L xs (l3 + 1) (fun v91 => bd (f_X12_may v91 M90) (fun r92 M93 => if r89 = r92 then f_law L xs n (l3 + 6) M93 else some (0, M93))))) else if i_ = 11 then rdX L xs (l3 + 1) (fun v94 => bd (f_X11_does v94 M) (fun r95 M96 => rdX L xs (l3 + 1) (fun v97 => bd (f_X12_does v97 M96) (fun r98 M99 => if r95 = r98 then f_law L xs n (l3 + 6) M99 else some (0, M99))))) else if i_ = 12 then bd (f_X11_stuck M) (fun r100 M101 => bd (f_X12_stuck M101) (fun r102 M103 => if r100 = r102 then f_law L xs n (l3 + 6) M103 else some (0, M103))) else if i_ = 13 then rdX L xs (l3 + 1) (fun v104 => rdX L xs (l3 + 2) (fun v105 => bd (f_X11_best v104 v105 M) (fun r106 M107 => rdX L xs (l3 + 1) (fun v108 => rdX L xs (l3 + 2) (fun v109 => bd (f_X12_best v108 v109 M107) (fun r110 M111 => if r106 = r110 then f_law L xs n (l3 + 6) M111 else some (0, M111))))))) else if i_ = 14 then bd (f_X11_last M) (fun r112 M113 => bd (f_X12_last M113) (fun r114 M115 => if r112 = r114 then f_law L xs n (l3 + 6) M115 else some (0, M115))) else if i_ = 15 then rdX L xs (l3 + 1) (fun v116 => rdX L xs (l3 + 2) (fun v117 => bd (f_X11_surest v116 v117 M) (fun r118 M119 => rdX L xs (l3 + 1) (fun v120 => rdX L xs (l3 + 2) (fun v121 => bd (f_X12_surest v120 v121 M119) (fun r122 M123 => if r118 = r122 then f_law L xs n (l3 + 6) M123 else some (0, M123))))))) else if i_ = 16 then rdX L xs (l3 + 1) (fun v124 => bd (f_X11_light v124 M) (fun r125 M126 => rdX L xs (l3 + 1) (fun v127 => bd (f_X12_light v127 M126) (fun r128 M129 => if r125 = r128 then f_law L xs n (l3 + 6) M129 else some (0, M129))))) else if i_ = 17 then rdX L xs (l3 + 1) (fun v130 => rdX L xs (l3 + 2) (fun v131 => bd (f_X11_far v130 v131 M) (fun r132 M133 => rdX L xs (l3 + 1) (fun v134 => rdX L xs (l3 + 2) (fun v135 => bd (f_X12_far v134 v135 M133) (fun r136 M137 => if r132 = r136 then f_law L xs n (l3 + 6) M137 else some (0, M137))))))) else if i_ = 18 then rdX L xs (l3 + 1) (fun v138 => bd (f_X11_meet v138 M) (fun r139 M140 => rdX L xs (l3 + 1) (fun v141 => bd (f_X12_meet v141 M140) (fun r142 M143 => if r139 = r142 then f_law L xs n (l3 + 6) M143 else some (0, M143))))) else if i_ = 19 then rdX L xs (l3 + 1) (fun v144 => bd (f_X11_party v144 M) (fun r145 M146 => rdX L xs (l3 + 1) (fun v147 => bd (f_X12_party v147 M146) (fun r148 M149 => if r145 = r148 then f_law L xs n (l3 + 6) M149 else some (0, M149))))) else if i_ = 20 then rdX L xs (l3 + 1) (fun v150 => rdX L xs (l3 + 2) (fun v151 => bd (f_X11_gate v150 v151 M) (fun r152 M153 => rdX L xs (l3 + 1) (fun v154 => rdX L xs (l3 + 2) (fun v155 => bd (f_X12_gate v154 v155 M153) (fun r156 M157 => if r152 = r156 then f_law L xs n (l3 + 6) M157 else some (0, M157))))))) else if i_ = 21 then rdX L xs (l3 + 1) (fun v158 => rdX L xs (l3 + 2) (fun v159 => bd (f_X11_round v158 v159 M) (fun r160 M161 => rdX L xs (l3 + 1) (fun v162 => rdX L xs (l3 + 2) (fun v163 => bd (f_X12_round v162 v163 M161) (fun r164 M165 => if r160 = r164 then f_law L xs n (l3 + 6) M165 else some (0, M165))))))) else if i_ = 22 then rdX L xs (l3 + 1) (fun v166 => rdX L xs (l3 + 2) (fun v167 => bd (f_X11_rule v166 v167 M) (fun r168 M169 => rdX L xs (l3 + 1) (fun v170 => rdX L xs (l3 + 2) (fun v171 => bd (f_X12_rule v170 v171 M169) (fun r172 M173 => if r168 = r172 then f_law L xs n (l3 + 6) M173 else some (0, M173))))))) else if i_ = 23 then rdX L xs (l3 + 1) (fun v174 => rdX L xs (l3 + 2) (fun v175 => bd (f_X11_ruleOf v174 v175 M) (fun r176 M177 => rdX L xs (l3 + 1) (fun v178 => rdX L xs (l3 + 2) (fun v179 => bd (f_X12_ruleOf v178 v179 M177) (fun r180 M181 => if r176 = r180 then f_law L xs n (l3 + 6) M181 else some (0, M181))))))) else if i_ = 24 then rdX L xs (l3 + 1) (fun v182 => bd (f_X11_next v182 M) (fun r183 M184 => rdX L xs (l3 + 1) (fun v185 => bd (f_X12_next v185 M184) (fun r186 M187 => if r183 = r186 then f_law L xs n (l3 + 6) M187 else some (0, M187))))) else if i_ = 25 then rdX L xs (l3 + 1) (fun v188 => rdX L xs (l3 + 2) (fun v189 => bd (f_X11_follow v188 v189 M) (fun r190 M191 => rdX L xs (l3 + 1) (fun v192 => rdX L xs (l3 + 2) (fun v193 => bd (f_X12_follow v192 v193 M191) (fun r194 M195 => if r190 = r194 then f_law L xs n (l3 + 6) M195 else some (0, M195))))))) else if i_ = 26 then rdX L xs (l3 + 1) (fun v196 => bd (f_X11_prove v196 M) (fun r197 M198 => rdX L xs (l3 + 1) (fun v199 => bd (f_X12_prove v199 M198) (fun r200 M201 => if r197 = r200 then f_law L xs n (l3 + 6) M201 else some (0, M201))))) else if i_ = 27 then rdX L xs (l3 + 1) (fun v202 => rdX L xs (l3 + 2) (fun v203 => bd (f_X11_row v202 v203 M) (fun r204 M205 => rdX L xs (l3 + 1) (fun v206 => rdX L xs (l3 + 2) (fun v207 => bd (f_X12_row v206 v207 M205) (fun r208 M209 => if r204 = r208 then f_law L xs n (l3 + 6) M209 else some (0, M209))))))) else if i_ = 28 then rdX L xs (l3 + 1) (fun v210 => rdX L xs (l3 + 2) (fun v211 => rdX L xs (l3 + 3) (fun v212 => bd (f_X11_alterRow v210 v211 v212 M) (fun r213 M214 => rdX L xs (l3 + 1) (fun v215 => rdX L xs (l3 + 2) (fun v216 => rdX L xs (l3 + 3) (fun v217 => bd (f_X12_alterRow v215 v216 v217 M214) (fun r218 M219 => if r213 = r218 then f_law L xs n (l3 + 6) M219 else some (0, M219))))))))) else if i_ = 29 then bd (f_X11_judge M) (fun r220 M221 => bd (f_X12_judge M221) (fun r222 M223 => if r220 = r222 then f_law L xs n (l3 + 6) M223 else some (0, M223))) else if i_ = 30 then rdX L xs (l3 + 1) (fun v224 => rdX L xs (l3 + 2) (fun v225 => rdX L xs (l3 + 3) (fun v226 => bd (f_X11_sheet v224 v225 v226 M) (fun r227 M228 => rdX L xs (l3 + 1) (fun v229 => rdX L xs (l3 + 2) (fun v230 => rdX L xs (l3 + 3) (fun v231 => bd (f_X12_sheet v229 v230 v231 M228) (fun r232 M233 => if r227 = r232 then f_law L xs n (l3 + 6) M233 else some (0, M233))))))))) else if i_ = 31 then rdX L xs (l3 + 1) (fun v234 => rdX L xs (l3 + 2) (fun v235 => rdX L xs (l3 + 3) (fun v236 => bd (f_X11_put v234 v235 v236 M) (fun r237 M238 => rdX L xs (l3 + 1) (fun v239 => rdX L xs (l3 + 2) (fun v240 => rdX L xs (l3 + 3) (fun v241 => bd (f_X12_put v239 v240 v241 M238) (fun r242 M243 => if r237 = r242 then f_law L xs n (l3 + 6) M243 else some (0, M243))))))))) else if i_ = 32 then rdX L xs (l3 + 1) (fun v244 => rdX L xs (l3 + 2) (fun v245 => rdX L xs (l3 + 3) (fun v246 => bd (f_X11_item v244 v245 v246 M) (fun r247 M248 => rdX L xs (l3 + 1) (fun v249 => rdX L xs (l3 + 2) (fun v250 => rdX L xs (l3 + 3) (fun v251 => bd (f_X12_item v249 v250 v251 M248) (fun r252 M253 => if r247 = r252 then f_law L xs n (l3 + 6) M253 else some (0, M253))))))))) else if i_ = 33 then rdX L xs (l3 + 1) (fun v254 => rdX L xs (l3 + 2) (fun v255 => rdX L xs (l3 + 3) (fun v256 => bd (f_X11_shelf v254 v255 v256 M) (fun r257 M258 => rdX L xs (l3 + 1) (fun v259 => rdX L xs (l3 + 2) (fun v260 => rdX L xs (l3 + 3) (fun v261 => bd (f_X12_shelf v259 v260 v261 M258) (fun r262 M263 => if r257 = r262 then f_law L xs n (l3 + 6) M263 else some (0, M263))))))))) else if i_ = 34 then rdX L xs (l3 + 1) (fun v264 => rdX L xs (l3 + 2) (fun v265 => bd (f_X11_taken v264 v265 M) (fun r266 M267 => rdX L xs (l3 + 1) (fun v268 => rdX L xs (l3 + 2) (fun v269 => bd (f_X12_taken v268 v269 M267) (fun r270 M271 => if r266 = r270 then f_law L xs n (l3 + 6) M271 else some (0, M271))))))) else if i_ = 35 then rdX L xs (l3 + 1) (fun v272 => rdX L xs (l3 + 2) (fun v273 => rdX L xs (l3 + 3) (fun v274 => bd (f_X11_act v272 v273 v274 M) (fun r275 M276 => rdX L xs (l3 + 1) (fun v277 => rdX L xs (l3 + 2) (fun v278 => rdX L xs (l3 + 3) (fun v279 => bd (f_X12_act v277 v278 v279 M276) (fun r280 M281 => if r275 = r280 then f_law L xs n (l3 + 6) M281 else some (0, M281))))))))) else if i_ = 36 then rdX L xs (l3 + 1) (fun v282 => bd (f_X11_trace v282 M) (fun r283 M284 => rdX L xs (l3 + 1) (fun v285 => bd (f_X12_trace v285 M284) (fun r286 M287 => if r283 = r286 then f_law L xs n (l3 + 6) M287 else some (0, M287))))) else if i_ = 37 then rdX L xs (l3 + 1) (fun v288 => bd (f_X11_many v288 M) (fun r289 M290 => rdX L xs (l3 + 1) (fun v291 => bd (f_X12_many v291 M290) (fun r292 M293 => if r289 = r292 then f_law L xs n (l3 + 6) M293 else some (0, M293))))) else if i_ = 38 then bd (f_X11_keep M) (fun r294 M295 => bd (f_X12_keep M295) (fun r296 M297 => if r294 = r296 then f_law L xs n (l3 + 6) M297 else some (0, M297))) else if i_ = 39 then bd (f_X11_again M) (fun r298 M299 => bd (f_X12_again M299) (fun r300 M301 => if r298 = r300 then f_law L xs n (l3 + 6) M301 else some (0, M301))) else f_law L xs n (l3 + 6) M) (f_law L xs n (l3 + 6) M)))
    refine x_iload_n C (k_dg dt_L_law_0 10 18 (.iload_n 3) 1 rfl) 3 rfl ?_
    refine x_aload_n C (k_dg dt_L_law_0 11 19 (.aload_n 0) 1 rfl) 0 rfl ?_
    refine x_xlen C hX (k_dg dt_L_law_0 12 20 (.arraylength) 1 rfl) ?_
    refine x_bipush C (v := 6) (k_dg dt_L_law_0 13 21 (.bipush 6) 2 rfl) (by decide) ?_
    refine x_isub C (k_dg dt_L_law_0 14 23 (.isub) 1 rfl) ?_
    refine x_icmp_gt C (tgt := 1454) (k_dg dt_L_law_0 15 24 (.if_icmp .gt 1430) 3 rfl) (by decide) (fun _ => ?_) (fun _ => ?_)
    · refine x_iconst C (v := 1) (k_dg dt_L_law_25 18 1454 (.iconst 1) 1 rfl) (by decide) ?_
      exact x_zret C (by show c ≤ 600000; omega) (by show s ≤ 7302250; omega) rfl (k_dg dt_L_law_25 19 1455 (.ireturn) 1 rfl)
    · refine x_aload_n C (k_dg dt_L_law_0 16 27 (.aload_n 0) 1 rfl) 0 rfl ?_
      refine x_iload_n C (k_dg dt_L_law_0 17 28 (.iload_n 3) 1 rfl) 3 rfl ?_
      refine x_xld C hX (k_dg dt_L_law_0 18 29 (.iaload) 1 rfl) (fun v1 => ?_)
      refine x_bipush C (v := 63) (k_dg dt_L_law_0 19 30 (.bipush 63) 2 rfl) (by decide) ?_
      refine x_iand C (k_dg dt_L_law_0 20 32 (.iand) 1 rfl) ?_
      refine x_tsw C (n := 40) (tgt := 1448) (k_dg dt_L_law_0 21 33 (.tableswitch 1415 0 39 #[175, 238, 251, 294, 357, 390, 423, 456, 479, 532, 555, 578, 601, 614, 647, 660, 693, 716, 749, 772, 795, 828, 861, 894, 927, 950, 983, 1006, 1039, 1082, 1095, 1138, 1181, 1224, 1267, 1300, 1343, 1366, 1389, 1402]) 175 rfl) (by decide) (by decide) (fun i_ => [208, 271, 284, 327, 390, 423, 456, 489, 512, 565, 588, 611, 634, 647, 680, 693, 726, 749, 782, 805, 828, 861, 894, 927, 960, 983, 1016, 1039, 1072, 1115, 1128, 1171, 1214, 1257, 1300, 1333, 1376, 1399, 1422, 1435].getD i_ 0) (by decide) (fun i_ hi_ _ => ?_) ?_
      · match i_, hi_ with
        | 0, _ =>
          show Sm Z G emI _ _ 208 _ _ _ (rdX L xs (l3 + 1) (fun v2 => rdX L xs (l3 + 2) (fun v3 => rdX L xs (l3 + 3) (fun v4 => bd (f_X11_feed ((v2.toInt64 <<< ((32 : Int32).toInt64 &&& 63)) ||| (v3.toInt64 &&& 4294967295)) v4 M) (fun r5 M6 => rdX L xs (l3 + 1) (fun v7 => rdX L xs (l3 + 2) (fun v8 => rdX L xs (l3 + 3) (fun v9 => bd (f_X12_feed ((v7.toInt64 <<< ((32 : Int32).toInt64 &&& 63)) ||| (v8.toInt64 &&& 4294967295)) v9 M6) (fun r10 M11 => if r5 = r10 then f_law L xs n (l3 + 6) M11 else some (0, M11))))))))))
          refine x_aload_n C (k_dg dt_L_law_0 22 208 (.aload_n 1) 1 rfl) 1 rfl ?_
          refine x_aload_n C (k_dg dt_L_law_0 23 209 (.aload_n 0) 1 rfl) 0 rfl ?_
          refine x_iload_n C (k_dg dt_L_law_0 24 210 (.iload_n 3) 1 rfl) 3 rfl ?_
          refine x_iconst C (v := 1) (k_dg dt_L_law_0 25 211 (.iconst 1) 1 rfl) (by decide) ?_
          refine x_iadd C (k_dg dt_L_law_0 26 212 (.iadd) 1 rfl) ?_
          refine x_xld C hX (k_dg dt_L_law_0 27 213 (.iaload) 1 rfl) (fun v2 => ?_)
          refine x_i2l C (k_dg dt_L_law_0 28 214 (.i2l) 1 rfl) ?_
          refine x_bipush C (v := 32) (k_dg dt_L_law_0 29 215 (.bipush 32) 2 rfl) (by decide) ?_
          refine x_lshl C (k_dg dt_L_law_0 30 217 (.lshl) 1 rfl) ?_
          refine x_aload_n C (k_dg dt_L_law_0 31 218 (.aload_n 0) 1 rfl) 0 rfl ?_
          refine x_iload_n C (k_dg dt_L_law_0 32 219 (.iload_n 3) 1 rfl) 3 rfl ?_
          refine x_iconst C (v := 2) (k_dg dt_L_law_0 33 220 (.iconst 2) 1 rfl) (by decide) ?_
          refine x_iadd C (k_dg dt_L_law_0 34 221 (.iadd) 1 rfl) ?_
          refine x_xld C hX (k_dg dt_L_law_0 35 222 (.iaload) 1 rfl) (fun v3 => ?_)
          refine x_i2l C (k_dg dt_L_law_0 36 223 (.i2l) 1 rfl) ?_
          refine x_ldc2 C (v := 4294967295) ct_RL_13 (k_dg dt_L_law_0 37 224 (.ldc2_w 13) 3 rfl) ?_
          refine x_land C (k_dg dt_L_law_0 38 227 (.land) 1 rfl) ?_
          refine x_lor C (k_dg dt_L_law_0 39 228 (.lor) 1 rfl) ?_
          refine x_aload_n C (k_dg dt_L_law_1 0 229 (.aload_n 0) 1 rfl) 0 rfl ?_
          refine x_iload_n C (k_dg dt_L_law_1 1 230 (.iload_n 3) 1 rfl) 3 rfl ?_
          refine x_iconst C (v := 3) (k_dg dt_L_law_1 2 231 (.iconst 3) 1 rfl) (by decide) ?_
          refine x_iadd C (k_dg dt_L_law_1 3 232 (.iadd) 1 rfl) ?_
          refine x_xld C hX (k_dg dt_L_law_1 4 233 (.iaload) 1 rfl) (fun v4 => ?_)
          refine x_callV C (a := 0) (kd := 9) (vs := [Value.long ((v2.toInt64 <<< ((32 : Int32).toInt64 &&& 63)) ||| (v3.toInt64 &&& 4294967295)), Value.int v4]) (rest := []) rfl rfl (by decide) (fun r hr => by cases hr; rfl) (c_X11_feed C.2.2.2.2.2.2.2.2.2 G.2.1 ((v2.toInt64 <<< ((32 : Int32).toInt64 &&& 63)) ||| (v3.toInt64 &&& 4294967295)) v4 M) cy_X11_feed lk_RL_15 im_X11_feed se_X11_feed (by decide) (by decide) (by show c + 0 ≤ 600000; omega) (by show s + 0 ≤ 7302250; omega) rfl rfl (Nat.le_of_ble_eq_true rfl) (k_dg dt_L_law_1 5 234 (.invokevirtual 15) 3 rfl) (fun r5 M6 => ?_)
          show Sm Z G _ _ (c, s) _ [(0, Value.ref b), (1, k_ra Z 0), (2, k_ra Z 76), (3, Value.int l3)] [Value.int r5] _ _
          refine x_aload_n C (k_dg dt_L_law_1 6 237 (.aload_n 2) 1 rfl) 2 rfl ?_
          refine x_aload_n C (k_dg dt_L_law_1 7 238 (.aload_n 0) 1 rfl) 0 rfl ?_
          refine x_iload_n C (k_dg dt_L_law_1 8 239 (.iload_n 3) 1 rfl) 3 rfl ?_
          refine x_iconst C (v := 1) (k_dg dt_L_law_1 9 240 (.iconst 1) 1 rfl) (by decide) ?_
          refine x_iadd C (k_dg dt_L_law_1 10 241 (.iadd) 1 rfl) ?_
          refine x_xld C hX (k_dg dt_L_law_1 11 242 (.iaload) 1 rfl) (fun v7 => ?_)
          refine x_i2l C (k_dg dt_L_law_1 12 243 (.i2l) 1 rfl) ?_
          refine x_bipush C (v := 32) (k_dg dt_L_law_1 13 244 (.bipush 32) 2 rfl) (by decide) ?_
          refine x_lshl C (k_dg dt_L_law_1 14 246 (.lshl) 1 rfl) ?_
          refine x_aload_n C (k_dg dt_L_law_1 15 247 (.aload_n 0) 1 rfl) 0 rfl ?_
          refine x_iload_n C (k_dg dt_L_law_1 16 248 (.iload_n 3) 1 rfl) 3 rfl ?_
          refine x_iconst C (v := 2) (k_dg dt_L_law_1 17 249 (.iconst 2) 1 rfl) (by decide) ?_
          refine x_iadd C (k_dg dt_L_law_1 18 250 (.iadd) 1 rfl) ?_
          refine x_xld C hX (k_dg dt_L_law_1 19 251 (.iaload) 1 rfl) (fun v8 => ?_)
          refine x_i2l C (k_dg dt_L_law_1 20 252 (.i2l) 1 rfl) ?_
          refine x_ldc2 C (v := 4294967295) ct_RL_13 (k_dg dt_L_law_1 21 253 (.ldc2_w 13) 3 rfl) ?_
          refine x_land C (k_dg dt_L_law_1 22 256 (.land) 1 rfl) ?_
          refine x_lor C (k_dg dt_L_law_1 23 257 (.lor) 1 rfl) ?_
          refine x_aload_n C (k_dg dt_L_law_1 24 258 (.aload_n 0) 1 rfl) 0 rfl ?_
          refine x_iload_n C (k_dg dt_L_law_1 25 259 (.iload_n 3) 1 rfl) 3 rfl ?_
          refine x_iconst C (v := 3) (k_dg dt_L_law_1 26 260 (.iconst 3) 1 rfl) (by decide) ?_
          refine x_iadd C (k_dg dt_L_law_1 27 261 (.iadd) 1 rfl) ?_
          refine x_xld C hX (k_dg dt_L_law_1 28 262 (.iaload) 1 rfl) (fun v9 => ?_)
          refine x_callV C (a := 76) (kd := 10) (vs := [Value.long ((v7.toInt64 <<< ((32 : Int32).toInt64 &&& 63)) ||| (v8.toInt64 &&& 4294967295)), Value.int v9]) (rest := [Value.int r5]) rfl rfl (by decide) (fun r hr => by cases hr; rfl) (c_X12_feed C.2.2.2.2.2.2.2.2.2 G.2.1 ((v7.toInt64 <<< ((32 : Int32).toInt64 &&& 63)) ||| (v8.toInt64 &&& 4294967295)) v9 M6) cy_X12_feed lk_RL_19 im_X12_feed se_X12_feed (by decide) (by decide) (by show c + 0 ≤ 600000; omega) (by show s + 0 ≤ 7302250; omega) rfl rfl (Nat.le_of_ble_eq_true rfl) (k_dg dt_L_law_1 29 263 (.invokevirtual 19) 3 rfl) (fun r10 M11 => ?_)
          show Sm Z G _ _ (c, s) _ [(0, Value.ref b), (1, k_ra Z 0), (2, k_ra Z 76), (3, Value.int l3)] [Value.int r10, Value.int r5] _ _
          refine x_icmp_eq C (tgt := 1448) (k_dg dt_L_law_1 30 266 (.if_icmp .eq 1182) 3 rfl) (by decide) (fun _ => ?_) (fun _ => ?_)
          · refine x_iinc C (v := 6) (lv' := [(3, Value.int (l3 + 6)), (0, Value.ref b), (1, k_ra Z 0), (2, k_ra Z 76)]) (k_dg dt_L_law_25 16 1448 (.iinc 3 6) 3 rfl) 3 rfl (by decide) (by decide) rfl ?_
            refine x_goto C (tgt := 18) (k_dg dt_L_law_25 17 1451 (.goto (-1433)) 3 rfl) (by decide) ?_
            refine x_lv [1, 2, 3, 0] rfl ?_
            exact ih (c) (s) (by omega) (by omega) (l3 + 6) M11
          · refine x_iconst C (v := 0) (k_dg dt_L_law_1 31 269 (.iconst 0) 1 rfl) (by decide) ?_
            exact x_zret C (by show c ≤ 600000; omega) (by show s ≤ 7302250; omega) rfl (k_dg dt_L_law_1 32 270 (.ireturn) 1 rfl)
        | 1, _ =>
          show Sm Z G emI _ _ 271 _ _ _ (bd (f_X11_plain M) (fun r12 M13 => bd (f_X12_plain M13) (fun r14 M15 => if r12 = r14 then f_law L xs n (l3 + 6) M15 else some (0, M15))))
          refine x_aload_n C (k_dg dt_L_law_1 33 271 (.aload_n 1) 1 rfl) 1 rfl ?_
          refine x_callV C (a := 0) (kd := 9) (vs := []) (rest := []) rfl rfl (by decide) (fun r hr => by cases hr; rfl) (c_X11_plain C.2.2.2.2.2.2.2.2.2 G.2.1 M) cy_X11_plain lk_RL_20 im_X11_plain se_X11_plain (by decide) (by decide) (by show c + 0 ≤ 600000; omega) (by show s + 0 ≤ 7302250; omega) rfl rfl (Nat.le_of_ble_eq_true rfl) (k_dg dt_L_law_1 34 272 (.invokevirtual 20) 3 rfl) (fun r12 M13 => ?_)
          show Sm Z G _ _ (c, s) _ [(0, Value.ref b), (1, k_ra Z 0), (2, k_ra Z 76), (3, Value.int l3)] [Value.int r12] _ _
          refine x_aload_n C (k_dg dt_L_law_1 35 275 (.aload_n 2) 1 rfl) 2 rfl ?_
          refine x_callV C (a := 76) (kd := 10) (vs := []) (rest := [Value.int r12]) rfl rfl (by decide) (fun r hr => by cases hr; rfl) (c_X12_plain C.2.2.2.2.2.2.2.2.2 G.2.1 M13) cy_X12_plain lk_RL_24 im_X12_plain se_X12_plain (by decide) (by decide) (by show c + 0 ≤ 600000; omega) (by show s + 0 ≤ 7302250; omega) rfl rfl (Nat.le_of_ble_eq_true rfl) (k_dg dt_L_law_1 36 276 (.invokevirtual 24) 3 rfl) (fun r14 M15 => ?_)
          show Sm Z G _ _ (c, s) _ [(0, Value.ref b), (1, k_ra Z 0), (2, k_ra Z 76), (3, Value.int l3)] [Value.int r14, Value.int r12] _ _
          refine x_icmp_eq C (tgt := 1448) (k_dg dt_L_law_1 37 279 (.if_icmp .eq 1169) 3 rfl) (by decide) (fun _ => ?_) (fun _ => ?_)
          · refine x_iinc C (v := 6) (lv' := [(3, Value.int (l3 + 6)), (0, Value.ref b), (1, k_ra Z 0), (2, k_ra Z 76)]) (k_dg dt_L_law_25 16 1448 (.iinc 3 6) 3 rfl) 3 rfl (by decide) (by decide) rfl ?_
            refine x_goto C (tgt := 18) (k_dg dt_L_law_25 17 1451 (.goto (-1433)) 3 rfl) (by decide) ?_
            refine x_lv [1, 2, 3, 0] rfl ?_
            exact ih (c) (s) (by omega) (by omega) (l3 + 6) M15
          · refine x_iconst C (v := 0) (k_dg dt_L_law_1 38 282 (.iconst 0) 1 rfl) (by decide) ?_
            exact x_zret C (by show c ≤ 600000; omega) (by show s ≤ 7302250; omega) rfl (k_dg dt_L_law_1 39 283 (.ireturn) 1 rfl)
        | 2, _ =>
          show Sm Z G emI _ _ 284 _ _ _ (rdX L xs (l3 + 1) (fun v16 => rdX L xs (l3 + 2) (fun v17 => rdX L xs (l3 + 3) (fun v18 => bd (f_X11_place v16 v17 v18 M) (fun r19 M20 => rdX L xs (l3 + 1) (fun v21 => rdX L xs (l3 + 2) (fun v22 => rdX L xs (l3 + 3) (fun v23 => bd (f_X12_place v21 v22 v23 M20) (fun r24 M25 => if r19 = r24 then f_law L xs n (l3 + 6) M25 else some (0, M25))))))))))
          refine x_aload_n C (k_dg dt_L_law_2 0 284 (.aload_n 1) 1 rfl) 1 rfl ?_
          refine x_aload_n C (k_dg dt_L_law_2 1 285 (.aload_n 0) 1 rfl) 0 rfl ?_
          refine x_iload_n C (k_dg dt_L_law_2 2 286 (.iload_n 3) 1 rfl) 3 rfl ?_
          refine x_iconst C (v := 1) (k_dg dt_L_law_2 3 287 (.iconst 1) 1 rfl) (by decide) ?_
          refine x_iadd C (k_dg dt_L_law_2 4 288 (.iadd) 1 rfl) ?_
          refine x_xld C hX (k_dg dt_L_law_2 5 289 (.iaload) 1 rfl) (fun v16 => ?_)
          refine x_aload_n C (k_dg dt_L_law_2 6 290 (.aload_n 0) 1 rfl) 0 rfl ?_
          refine x_iload_n C (k_dg dt_L_law_2 7 291 (.iload_n 3) 1 rfl) 3 rfl ?_
          refine x_iconst C (v := 2) (k_dg dt_L_law_2 8 292 (.iconst 2) 1 rfl) (by decide) ?_
          refine x_iadd C (k_dg dt_L_law_2 9 293 (.iadd) 1 rfl) ?_
          refine x_xld C hX (k_dg dt_L_law_2 10 294 (.iaload) 1 rfl) (fun v17 => ?_)
          refine x_aload_n C (k_dg dt_L_law_2 11 295 (.aload_n 0) 1 rfl) 0 rfl ?_
          refine x_iload_n C (k_dg dt_L_law_2 12 296 (.iload_n 3) 1 rfl) 3 rfl ?_
          refine x_iconst C (v := 3) (k_dg dt_L_law_2 13 297 (.iconst 3) 1 rfl) (by decide) ?_
          refine x_iadd C (k_dg dt_L_law_2 14 298 (.iadd) 1 rfl) ?_
          refine x_xld C hX (k_dg dt_L_law_2 15 299 (.iaload) 1 rfl) (fun v18 => ?_)
          refine x_callV C (a := 0) (kd := 9) (vs := [Value.int v16, Value.int v17, Value.int v18]) (rest := []) rfl rfl (by decide) (fun r hr => by cases hr; rfl) (c_X11_place C.2.2.2.2.2.2.2.2.2 G.2.1 v16 v17 v18 M) cy_X11_place lk_RL_25 im_X11_place se_X11_place (by decide) (by decide) (by show c + 0 ≤ 600000; omega) (by show s + 0 ≤ 7302250; omega) rfl rfl (Nat.le_of_ble_eq_true rfl) (k_dg dt_L_law_2 16 300 (.invokevirtual 25) 3 rfl) (fun r19 M20 => ?_)
          show Sm Z G _ _ (c, s) _ [(0, Value.ref b), (1, k_ra Z 0), (2, k_ra Z 76), (3, Value.int l3)] [Value.int r19] _ _
          refine x_aload_n C (k_dg dt_L_law_2 17 303 (.aload_n 2) 1 rfl) 2 rfl ?_
          refine x_aload_n C (k_dg dt_L_law_2 18 304 (.aload_n 0) 1 rfl) 0 rfl ?_
          refine x_iload_n C (k_dg dt_L_law_2 19 305 (.iload_n 3) 1 rfl) 3 rfl ?_
          refine x_iconst C (v := 1) (k_dg dt_L_law_2 20 306 (.iconst 1) 1 rfl) (by decide) ?_
          refine x_iadd C (k_dg dt_L_law_2 21 307 (.iadd) 1 rfl) ?_
          refine x_xld C hX (k_dg dt_L_law_2 22 308 (.iaload) 1 rfl) (fun v21 => ?_)
          refine x_aload_n C (k_dg dt_L_law_2 23 309 (.aload_n 0) 1 rfl) 0 rfl ?_
          refine x_iload_n C (k_dg dt_L_law_2 24 310 (.iload_n 3) 1 rfl) 3 rfl ?_
          refine x_iconst C (v := 2) (k_dg dt_L_law_2 25 311 (.iconst 2) 1 rfl) (by decide) ?_
          refine x_iadd C (k_dg dt_L_law_2 26 312 (.iadd) 1 rfl) ?_
          refine x_xld C hX (k_dg dt_L_law_2 27 313 (.iaload) 1 rfl) (fun v22 => ?_)
          refine x_aload_n C (k_dg dt_L_law_2 28 314 (.aload_n 0) 1 rfl) 0 rfl ?_
          refine x_iload_n C (k_dg dt_L_law_2 29 315 (.iload_n 3) 1 rfl) 3 rfl ?_
          refine x_iconst C (v := 3) (k_dg dt_L_law_2 30 316 (.iconst 3) 1 rfl) (by decide) ?_
          refine x_iadd C (k_dg dt_L_law_2 31 317 (.iadd) 1 rfl) ?_
          refine x_xld C hX (k_dg dt_L_law_2 32 318 (.iaload) 1 rfl) (fun v23 => ?_)
          refine x_callV C (a := 76) (kd := 10) (vs := [Value.int v21, Value.int v22, Value.int v23]) (rest := [Value.int r19]) rfl rfl (by decide) (fun r hr => by cases hr; rfl) (c_X12_place C.2.2.2.2.2.2.2.2.2 G.2.1 v21 v22 v23 M20) cy_X12_place lk_RL_29 im_X12_place se_X12_place (by decide) (by decide) (by show c + 0 ≤ 600000; omega) (by show s + 0 ≤ 7302250; omega) rfl rfl (Nat.le_of_ble_eq_true rfl) (k_dg dt_L_law_2 33 319 (.invokevirtual 29) 3 rfl) (fun r24 M25 => ?_)
          show Sm Z G _ _ (c, s) _ [(0, Value.ref b), (1, k_ra Z 0), (2, k_ra Z 76), (3, Value.int l3)] [Value.int r24, Value.int r19] _ _
          refine x_icmp_eq C (tgt := 1448) (k_dg dt_L_law_2 34 322 (.if_icmp .eq 1126) 3 rfl) (by decide) (fun _ => ?_) (fun _ => ?_)
          · refine x_iinc C (v := 6) (lv' := [(3, Value.int (l3 + 6)), (0, Value.ref b), (1, k_ra Z 0), (2, k_ra Z 76)]) (k_dg dt_L_law_25 16 1448 (.iinc 3 6) 3 rfl) 3 rfl (by decide) (by decide) rfl ?_
            refine x_goto C (tgt := 18) (k_dg dt_L_law_25 17 1451 (.goto (-1433)) 3 rfl) (by decide) ?_
            refine x_lv [1, 2, 3, 0] rfl ?_
            exact ih (c) (s) (by omega) (by omega) (l3 + 6) M25
          · refine x_iconst C (v := 0) (k_dg dt_L_law_2 35 325 (.iconst 0) 1 rfl) (by decide) ?_
            exact x_zret C (by show c ≤ 600000; omega) (by show s ≤ 7302250; omega) rfl (k_dg dt_L_law_2 36 326 (.ireturn) 1 rfl)
        | 3, _ =>
          show Sm Z G emI _ _ 327 _ _ _ (rdX L xs (l3 + 1) (fun v26 => rdX L xs (l3 + 2) (fun v27 => rdX L xs (l3 + 3) (fun v28 => rdX L xs (l3 + 4) (fun v29 => rdX L xs (l3 + 5) (fun v30 => bd (f_X11_way v26 v27 v28 v29 v30 M) (fun r31 M32 => rdX L xs (l3 + 1) (fun v33 => rdX L xs (l3 + 2) (fun v34 => rdX L xs (l3 + 3) (fun v35 => rdX L xs (l3 + 4) (fun v36 => rdX L xs (l3 + 5) (fun v37 => bd (f_X12_way v33 v34 v35 v36 v37 M32) (fun r38 M39 => if r31 = r38 then f_law L xs n (l3 + 6) M39 else some (0, M39))))))))))))))
          refine x_aload_n C (k_dg dt_L_law_2 37 327 (.aload_n 1) 1 rfl) 1 rfl ?_
          refine x_aload_n C (k_dg dt_L_law_2 38 328 (.aload_n 0) 1 rfl) 0 rfl ?_
          refine x_iload_n C (k_dg dt_L_law_2 39 329 (.iload_n 3) 1 rfl) 3 rfl ?_
          refine x_iconst C (v := 1) (k_dg dt_L_law_3 0 330 (.iconst 1) 1 rfl) (by decide) ?_
          refine x_iadd C (k_dg dt_L_law_3 1 331 (.iadd) 1 rfl) ?_
          refine x_xld C hX (k_dg dt_L_law_3 2 332 (.iaload) 1 rfl) (fun v26 => ?_)
          refine x_aload_n C (k_dg dt_L_law_3 3 333 (.aload_n 0) 1 rfl) 0 rfl ?_
          refine x_iload_n C (k_dg dt_L_law_3 4 334 (.iload_n 3) 1 rfl) 3 rfl ?_
          refine x_iconst C (v := 2) (k_dg dt_L_law_3 5 335 (.iconst 2) 1 rfl) (by decide) ?_
          refine x_iadd C (k_dg dt_L_law_3 6 336 (.iadd) 1 rfl) ?_
          refine x_xld C hX (k_dg dt_L_law_3 7 337 (.iaload) 1 rfl) (fun v27 => ?_)
          refine x_aload_n C (k_dg dt_L_law_3 8 338 (.aload_n 0) 1 rfl) 0 rfl ?_
          refine x_iload_n C (k_dg dt_L_law_3 9 339 (.iload_n 3) 1 rfl) 3 rfl ?_
          refine x_iconst C (v := 3) (k_dg dt_L_law_3 10 340 (.iconst 3) 1 rfl) (by decide) ?_
          refine x_iadd C (k_dg dt_L_law_3 11 341 (.iadd) 1 rfl) ?_
          refine x_xld C hX (k_dg dt_L_law_3 12 342 (.iaload) 1 rfl) (fun v28 => ?_)
          refine x_aload_n C (k_dg dt_L_law_3 13 343 (.aload_n 0) 1 rfl) 0 rfl ?_
          refine x_iload_n C (k_dg dt_L_law_3 14 344 (.iload_n 3) 1 rfl) 3 rfl ?_
          refine x_iconst C (v := 4) (k_dg dt_L_law_3 15 345 (.iconst 4) 1 rfl) (by decide) ?_
          refine x_iadd C (k_dg dt_L_law_3 16 346 (.iadd) 1 rfl) ?_
          refine x_xld C hX (k_dg dt_L_law_3 17 347 (.iaload) 1 rfl) (fun v29 => ?_)
          refine x_aload_n C (k_dg dt_L_law_3 18 348 (.aload_n 0) 1 rfl) 0 rfl ?_
          refine x_iload_n C (k_dg dt_L_law_3 19 349 (.iload_n 3) 1 rfl) 3 rfl ?_
          refine x_iconst C (v := 5) (k_dg dt_L_law_3 20 350 (.iconst 5) 1 rfl) (by decide) ?_
          refine x_iadd C (k_dg dt_L_law_3 21 351 (.iadd) 1 rfl) ?_
          refine x_xld C hX (k_dg dt_L_law_3 22 352 (.iaload) 1 rfl) (fun v30 => ?_)
          refine x_callV C (a := 0) (kd := 9) (vs := [Value.int v26, Value.int v27, Value.int v28, Value.int v29, Value.int v30]) (rest := []) rfl rfl (by decide) (fun r hr => by cases hr; rfl) (c_X11_way C.2.2.2.2.2.2.2.2.2 G.2.1 v26 v27 v28 v29 v30 M) cy_X11_way lk_RL_30 im_X11_way se_X11_way (by decide) (by decide) (by show c + 0 ≤ 600000; omega) (by show s + 0 ≤ 7302250; omega) rfl rfl (Nat.le_of_ble_eq_true rfl) (k_dg dt_L_law_3 23 353 (.invokevirtual 30) 3 rfl) (fun r31 M32 => ?_)
          show Sm Z G _ _ (c, s) _ [(0, Value.ref b), (1, k_ra Z 0), (2, k_ra Z 76), (3, Value.int l3)] [Value.int r31] _ _
          refine x_aload_n C (k_dg dt_L_law_3 24 356 (.aload_n 2) 1 rfl) 2 rfl ?_
          refine x_aload_n C (k_dg dt_L_law_3 25 357 (.aload_n 0) 1 rfl) 0 rfl ?_
          refine x_iload_n C (k_dg dt_L_law_3 26 358 (.iload_n 3) 1 rfl) 3 rfl ?_
          refine x_iconst C (v := 1) (k_dg dt_L_law_3 27 359 (.iconst 1) 1 rfl) (by decide) ?_
          refine x_iadd C (k_dg dt_L_law_3 28 360 (.iadd) 1 rfl) ?_
          refine x_xld C hX (k_dg dt_L_law_3 29 361 (.iaload) 1 rfl) (fun v33 => ?_)
          refine x_aload_n C (k_dg dt_L_law_3 30 362 (.aload_n 0) 1 rfl) 0 rfl ?_
          refine x_iload_n C (k_dg dt_L_law_3 31 363 (.iload_n 3) 1 rfl) 3 rfl ?_
          refine x_iconst C (v := 2) (k_dg dt_L_law_3 32 364 (.iconst 2) 1 rfl) (by decide) ?_
          refine x_iadd C (k_dg dt_L_law_3 33 365 (.iadd) 1 rfl) ?_
          refine x_xld C hX (k_dg dt_L_law_3 34 366 (.iaload) 1 rfl) (fun v34 => ?_)
          refine x_aload_n C (k_dg dt_L_law_3 35 367 (.aload_n 0) 1 rfl) 0 rfl ?_
          refine x_iload_n C (k_dg dt_L_law_3 36 368 (.iload_n 3) 1 rfl) 3 rfl ?_
          refine x_iconst C (v := 3) (k_dg dt_L_law_3 37 369 (.iconst 3) 1 rfl) (by decide) ?_
          refine x_iadd C (k_dg dt_L_law_3 38 370 (.iadd) 1 rfl) ?_
          refine x_xld C hX (k_dg dt_L_law_3 39 371 (.iaload) 1 rfl) (fun v35 => ?_)
          refine x_aload_n C (k_dg dt_L_law_4 0 372 (.aload_n 0) 1 rfl) 0 rfl ?_
          refine x_iload_n C (k_dg dt_L_law_4 1 373 (.iload_n 3) 1 rfl) 3 rfl ?_
          refine x_iconst C (v := 4) (k_dg dt_L_law_4 2 374 (.iconst 4) 1 rfl) (by decide) ?_
          refine x_iadd C (k_dg dt_L_law_4 3 375 (.iadd) 1 rfl) ?_
          refine x_xld C hX (k_dg dt_L_law_4 4 376 (.iaload) 1 rfl) (fun v36 => ?_)
          refine x_aload_n C (k_dg dt_L_law_4 5 377 (.aload_n 0) 1 rfl) 0 rfl ?_
          refine x_iload_n C (k_dg dt_L_law_4 6 378 (.iload_n 3) 1 rfl) 3 rfl ?_
          refine x_iconst C (v := 5) (k_dg dt_L_law_4 7 379 (.iconst 5) 1 rfl) (by decide) ?_
          refine x_iadd C (k_dg dt_L_law_4 8 380 (.iadd) 1 rfl) ?_
          refine x_xld C hX (k_dg dt_L_law_4 9 381 (.iaload) 1 rfl) (fun v37 => ?_)
          refine x_callV C (a := 76) (kd := 10) (vs := [Value.int v33, Value.int v34, Value.int v35, Value.int v36, Value.int v37]) (rest := [Value.int r31]) rfl rfl (by decide) (fun r hr => by cases hr; rfl) (c_X12_way C.2.2.2.2.2.2.2.2.2 G.2.1 v33 v34 v35 v36 v37 M32) cy_X12_way lk_RL_34 im_X12_way se_X12_way (by decide) (by decide) (by show c + 0 ≤ 600000; omega) (by show s + 0 ≤ 7302250; omega) rfl rfl (Nat.le_of_ble_eq_true rfl) (k_dg dt_L_law_4 10 382 (.invokevirtual 34) 3 rfl) (fun r38 M39 => ?_)
          show Sm Z G _ _ (c, s) _ [(0, Value.ref b), (1, k_ra Z 0), (2, k_ra Z 76), (3, Value.int l3)] [Value.int r38, Value.int r31] _ _
          refine x_icmp_eq C (tgt := 1448) (k_dg dt_L_law_4 11 385 (.if_icmp .eq 1063) 3 rfl) (by decide) (fun _ => ?_) (fun _ => ?_)
          · refine x_iinc C (v := 6) (lv' := [(3, Value.int (l3 + 6)), (0, Value.ref b), (1, k_ra Z 0), (2, k_ra Z 76)]) (k_dg dt_L_law_25 16 1448 (.iinc 3 6) 3 rfl) 3 rfl (by decide) (by decide) rfl ?_
            refine x_goto C (tgt := 18) (k_dg dt_L_law_25 17 1451 (.goto (-1433)) 3 rfl) (by decide) ?_
            refine x_lv [1, 2, 3, 0] rfl ?_
            exact ih (c) (s) (by omega) (by omega) (l3 + 6) M39
          · refine x_iconst C (v := 0) (k_dg dt_L_law_4 12 388 (.iconst 0) 1 rfl) (by decide) ?_
            exact x_zret C (by show c ≤ 600000; omega) (by show s ≤ 7302250; omega) rfl (k_dg dt_L_law_4 13 389 (.ireturn) 1 rfl)
        | 4, _ =>
          show Sm Z G emI _ _ 390 _ _ _ (rdX L xs (l3 + 1) (fun v40 => rdX L xs (l3 + 2) (fun v41 => bd (f_X11_placeOf v40 v41 M) (fun r42 M43 => rdX L xs (l3 + 1) (fun v44 => rdX L xs (l3 + 2) (fun v45 => bd (f_X12_placeOf v44 v45 M43) (fun r46 M47 => if r42 = r46 then f_law L xs n (l3 + 6) M47 else some (0, M47))))))))
          refine x_aload_n C (k_dg dt_L_law_4 14 390 (.aload_n 1) 1 rfl) 1 rfl ?_
          refine x_aload_n C (k_dg dt_L_law_4 15 391 (.aload_n 0) 1 rfl) 0 rfl ?_
          refine x_iload_n C (k_dg dt_L_law_4 16 392 (.iload_n 3) 1 rfl) 3 rfl ?_
          refine x_iconst C (v := 1) (k_dg dt_L_law_4 17 393 (.iconst 1) 1 rfl) (by decide) ?_
          refine x_iadd C (k_dg dt_L_law_4 18 394 (.iadd) 1 rfl) ?_
          refine x_xld C hX (k_dg dt_L_law_4 19 395 (.iaload) 1 rfl) (fun v40 => ?_)
          refine x_aload_n C (k_dg dt_L_law_4 20 396 (.aload_n 0) 1 rfl) 0 rfl ?_
          refine x_iload_n C (k_dg dt_L_law_4 21 397 (.iload_n 3) 1 rfl) 3 rfl ?_
          refine x_iconst C (v := 2) (k_dg dt_L_law_4 22 398 (.iconst 2) 1 rfl) (by decide) ?_
          refine x_iadd C (k_dg dt_L_law_4 23 399 (.iadd) 1 rfl) ?_
          refine x_xld C hX (k_dg dt_L_law_4 24 400 (.iaload) 1 rfl) (fun v41 => ?_)
          refine x_callV C (a := 0) (kd := 9) (vs := [Value.int v40, Value.int v41]) (rest := []) rfl rfl (by decide) (fun r hr => by cases hr; rfl) (c_X11_placeOf C.2.2.2.2.2.2.2.2.2 G.2.1 v40 v41 M) cy_X11_placeOf lk_RL_35 im_X11_placeOf se_X11_placeOf (by decide) (by decide) (by show c + 0 ≤ 600000; omega) (by show s + 0 ≤ 7302250; omega) rfl rfl (Nat.le_of_ble_eq_true rfl) (k_dg dt_L_law_4 25 401 (.invokevirtual 35) 3 rfl) (fun r42 M43 => ?_)
          show Sm Z G _ _ (c, s) _ [(0, Value.ref b), (1, k_ra Z 0), (2, k_ra Z 76), (3, Value.int l3)] [Value.int r42] _ _
          refine x_aload_n C (k_dg dt_L_law_4 26 404 (.aload_n 2) 1 rfl) 2 rfl ?_
          refine x_aload_n C (k_dg dt_L_law_4 27 405 (.aload_n 0) 1 rfl) 0 rfl ?_
          refine x_iload_n C (k_dg dt_L_law_4 28 406 (.iload_n 3) 1 rfl) 3 rfl ?_
          refine x_iconst C (v := 1) (k_dg dt_L_law_4 29 407 (.iconst 1) 1 rfl) (by decide) ?_
          refine x_iadd C (k_dg dt_L_law_4 30 408 (.iadd) 1 rfl) ?_
          refine x_xld C hX (k_dg dt_L_law_4 31 409 (.iaload) 1 rfl) (fun v44 => ?_)
          refine x_aload_n C (k_dg dt_L_law_4 32 410 (.aload_n 0) 1 rfl) 0 rfl ?_
          refine x_iload_n C (k_dg dt_L_law_4 33 411 (.iload_n 3) 1 rfl) 3 rfl ?_
          refine x_iconst C (v := 2) (k_dg dt_L_law_4 34 412 (.iconst 2) 1 rfl) (by decide) ?_
          refine x_iadd C (k_dg dt_L_law_4 35 413 (.iadd) 1 rfl) ?_
          refine x_xld C hX (k_dg dt_L_law_4 36 414 (.iaload) 1 rfl) (fun v45 => ?_)
          refine x_callV C (a := 76) (kd := 10) (vs := [Value.int v44, Value.int v45]) (rest := [Value.int r42]) rfl rfl (by decide) (fun r hr => by cases hr; rfl) (c_X12_placeOf C.2.2.2.2.2.2.2.2.2 G.2.1 v44 v45 M43) cy_X12_placeOf lk_RL_39 im_X12_placeOf se_X12_placeOf (by decide) (by decide) (by show c + 0 ≤ 600000; omega) (by show s + 0 ≤ 7302250; omega) rfl rfl (Nat.le_of_ble_eq_true rfl) (k_dg dt_L_law_4 37 415 (.invokevirtual 39) 3 rfl) (fun r46 M47 => ?_)
          show Sm Z G _ _ (c, s) _ [(0, Value.ref b), (1, k_ra Z 0), (2, k_ra Z 76), (3, Value.int l3)] [Value.int r46, Value.int r42] _ _
          refine x_icmp_eq C (tgt := 1448) (k_dg dt_L_law_4 38 418 (.if_icmp .eq 1030) 3 rfl) (by decide) (fun _ => ?_) (fun _ => ?_)
          · refine x_iinc C (v := 6) (lv' := [(3, Value.int (l3 + 6)), (0, Value.ref b), (1, k_ra Z 0), (2, k_ra Z 76)]) (k_dg dt_L_law_25 16 1448 (.iinc 3 6) 3 rfl) 3 rfl (by decide) (by decide) rfl ?_
            refine x_goto C (tgt := 18) (k_dg dt_L_law_25 17 1451 (.goto (-1433)) 3 rfl) (by decide) ?_
            refine x_lv [1, 2, 3, 0] rfl ?_
            exact ih (c) (s) (by omega) (by omega) (l3 + 6) M47
          · refine x_iconst C (v := 0) (k_dg dt_L_law_4 39 421 (.iconst 0) 1 rfl) (by decide) ?_
            exact x_zret C (by show c ≤ 600000; omega) (by show s ≤ 7302250; omega) rfl (k_dg dt_L_law_5 0 422 (.ireturn) 1 rfl)
        | 5, _ =>
          show Sm Z G emI _ _ 423 _ _ _ (rdX L xs (l3 + 1) (fun v48 => rdX L xs (l3 + 2) (fun v49 => bd (f_X11_wayOf v48 v49 M) (fun r50 M51 => rdX L xs (l3 + 1) (fun v52 => rdX L xs (l3 + 2) (fun v53 => bd (f_X12_wayOf v52 v53 M51) (fun r54 M55 => if r50 = r54 then f_law L xs n (l3 + 6) M55 else some (0, M55))))))))
          refine x_aload_n C (k_dg dt_L_law_5 1 423 (.aload_n 1) 1 rfl) 1 rfl ?_
          refine x_aload_n C (k_dg dt_L_law_5 2 424 (.aload_n 0) 1 rfl) 0 rfl ?_
          refine x_iload_n C (k_dg dt_L_law_5 3 425 (.iload_n 3) 1 rfl) 3 rfl ?_
          refine x_iconst C (v := 1) (k_dg dt_L_law_5 4 426 (.iconst 1) 1 rfl) (by decide) ?_
          refine x_iadd C (k_dg dt_L_law_5 5 427 (.iadd) 1 rfl) ?_
          refine x_xld C hX (k_dg dt_L_law_5 6 428 (.iaload) 1 rfl) (fun v48 => ?_)
          refine x_aload_n C (k_dg dt_L_law_5 7 429 (.aload_n 0) 1 rfl) 0 rfl ?_
          refine x_iload_n C (k_dg dt_L_law_5 8 430 (.iload_n 3) 1 rfl) 3 rfl ?_
          refine x_iconst C (v := 2) (k_dg dt_L_law_5 9 431 (.iconst 2) 1 rfl) (by decide) ?_
          refine x_iadd C (k_dg dt_L_law_5 10 432 (.iadd) 1 rfl) ?_
          refine x_xld C hX (k_dg dt_L_law_5 11 433 (.iaload) 1 rfl) (fun v49 => ?_)
          refine x_callV C (a := 0) (kd := 9) (vs := [Value.int v48, Value.int v49]) (rest := []) rfl rfl (by decide) (fun r hr => by cases hr; rfl) (c_X11_wayOf C.2.2.2.2.2.2.2.2.2 G.2.1 v48 v49 M) cy_X11_wayOf lk_RL_40 im_X11_wayOf se_X11_wayOf (by decide) (by decide) (by show c + 0 ≤ 600000; omega) (by show s + 0 ≤ 7302250; omega) rfl rfl (Nat.le_of_ble_eq_true rfl) (k_dg dt_L_law_5 12 434 (.invokevirtual 40) 3 rfl) (fun r50 M51 => ?_)
          show Sm Z G _ _ (c, s) _ [(0, Value.ref b), (1, k_ra Z 0), (2, k_ra Z 76), (3, Value.int l3)] [Value.int r50] _ _
          refine x_aload_n C (k_dg dt_L_law_5 13 437 (.aload_n 2) 1 rfl) 2 rfl ?_
          refine x_aload_n C (k_dg dt_L_law_5 14 438 (.aload_n 0) 1 rfl) 0 rfl ?_
          refine x_iload_n C (k_dg dt_L_law_5 15 439 (.iload_n 3) 1 rfl) 3 rfl ?_
          refine x_iconst C (v := 1) (k_dg dt_L_law_5 16 440 (.iconst 1) 1 rfl) (by decide) ?_
          refine x_iadd C (k_dg dt_L_law_5 17 441 (.iadd) 1 rfl) ?_
          refine x_xld C hX (k_dg dt_L_law_5 18 442 (.iaload) 1 rfl) (fun v52 => ?_)
          refine x_aload_n C (k_dg dt_L_law_5 19 443 (.aload_n 0) 1 rfl) 0 rfl ?_
          refine x_iload_n C (k_dg dt_L_law_5 20 444 (.iload_n 3) 1 rfl) 3 rfl ?_
          refine x_iconst C (v := 2) (k_dg dt_L_law_5 21 445 (.iconst 2) 1 rfl) (by decide) ?_
          refine x_iadd C (k_dg dt_L_law_5 22 446 (.iadd) 1 rfl) ?_
          refine x_xld C hX (k_dg dt_L_law_5 23 447 (.iaload) 1 rfl) (fun v53 => ?_)
          refine x_callV C (a := 76) (kd := 10) (vs := [Value.int v52, Value.int v53]) (rest := [Value.int r50]) rfl rfl (by decide) (fun r hr => by cases hr; rfl) (c_X12_wayOf C.2.2.2.2.2.2.2.2.2 G.2.1 v52 v53 M51) cy_X12_wayOf lk_RL_43 im_X12_wayOf se_X12_wayOf (by decide) (by decide) (by show c + 0 ≤ 600000; omega) (by show s + 0 ≤ 7302250; omega) rfl rfl (Nat.le_of_ble_eq_true rfl) (k_dg dt_L_law_5 24 448 (.invokevirtual 43) 3 rfl) (fun r54 M55 => ?_)
          show Sm Z G _ _ (c, s) _ [(0, Value.ref b), (1, k_ra Z 0), (2, k_ra Z 76), (3, Value.int l3)] [Value.int r54, Value.int r50] _ _
          refine x_icmp_eq C (tgt := 1448) (k_dg dt_L_law_5 25 451 (.if_icmp .eq 997) 3 rfl) (by decide) (fun _ => ?_) (fun _ => ?_)
          · refine x_iinc C (v := 6) (lv' := [(3, Value.int (l3 + 6)), (0, Value.ref b), (1, k_ra Z 0), (2, k_ra Z 76)]) (k_dg dt_L_law_25 16 1448 (.iinc 3 6) 3 rfl) 3 rfl (by decide) (by decide) rfl ?_
            refine x_goto C (tgt := 18) (k_dg dt_L_law_25 17 1451 (.goto (-1433)) 3 rfl) (by decide) ?_
            refine x_lv [1, 2, 3, 0] rfl ?_
            exact ih (c) (s) (by omega) (by omega) (l3 + 6) M55
          · refine x_iconst C (v := 0) (k_dg dt_L_law_5 26 454 (.iconst 0) 1 rfl) (by decide) ?_
            exact x_zret C (by show c ≤ 600000; omega) (by show s ≤ 7302250; omega) rfl (k_dg dt_L_law_5 27 455 (.ireturn) 1 rfl)
        | 6, _ =>
          show Sm Z G emI _ _ 456 _ _ _ (rdX L xs (l3 + 1) (fun v56 => rdX L xs (l3 + 2) (fun v57 => bd (f_X11_set v56 v57 M) (fun r58 M59 => rdX L xs (l3 + 1) (fun v60 => rdX L xs (l3 + 2) (fun v61 => bd (f_X12_set v60 v61 M59) (fun r62 M63 => if r58 = r62 then f_law L xs n (l3 + 6) M63 else some (0, M63))))))))
          refine x_aload_n C (k_dg dt_L_law_5 28 456 (.aload_n 1) 1 rfl) 1 rfl ?_
          refine x_aload_n C (k_dg dt_L_law_5 29 457 (.aload_n 0) 1 rfl) 0 rfl ?_
          refine x_iload_n C (k_dg dt_L_law_5 30 458 (.iload_n 3) 1 rfl) 3 rfl ?_
          refine x_iconst C (v := 1) (k_dg dt_L_law_5 31 459 (.iconst 1) 1 rfl) (by decide) ?_
          refine x_iadd C (k_dg dt_L_law_5 32 460 (.iadd) 1 rfl) ?_
          refine x_xld C hX (k_dg dt_L_law_5 33 461 (.iaload) 1 rfl) (fun v56 => ?_)
          refine x_aload_n C (k_dg dt_L_law_5 34 462 (.aload_n 0) 1 rfl) 0 rfl ?_
          refine x_iload_n C (k_dg dt_L_law_5 35 463 (.iload_n 3) 1 rfl) 3 rfl ?_
          refine x_iconst C (v := 2) (k_dg dt_L_law_5 36 464 (.iconst 2) 1 rfl) (by decide) ?_
          refine x_iadd C (k_dg dt_L_law_5 37 465 (.iadd) 1 rfl) ?_
          refine x_xld C hX (k_dg dt_L_law_5 38 466 (.iaload) 1 rfl) (fun v57 => ?_)
          refine x_callV C (a := 0) (kd := 9) (vs := [Value.int v56, Value.int v57]) (rest := []) rfl rfl (by decide) (fun r hr => by cases hr; rfl) (c_X11_set C.2.2.2.2.2.2.2.2.2 G.2.1 v56 v57 M) cy_X11_set lk_RL_44 im_X11_set se_X11_set (by decide) (by decide) (by show c + 0 ≤ 600000; omega) (by show s + 0 ≤ 7302250; omega) rfl rfl (Nat.le_of_ble_eq_true rfl) (k_dg dt_L_law_5 39 467 (.invokevirtual 44) 3 rfl) (fun r58 M59 => ?_)
          show Sm Z G _ _ (c, s) _ [(0, Value.ref b), (1, k_ra Z 0), (2, k_ra Z 76), (3, Value.int l3)] [Value.int r58] _ _
          refine x_aload_n C (k_dg dt_L_law_6 0 470 (.aload_n 2) 1 rfl) 2 rfl ?_
          refine x_aload_n C (k_dg dt_L_law_6 1 471 (.aload_n 0) 1 rfl) 0 rfl ?_
          refine x_iload_n C (k_dg dt_L_law_6 2 472 (.iload_n 3) 1 rfl) 3 rfl ?_
          refine x_iconst C (v := 1) (k_dg dt_L_law_6 3 473 (.iconst 1) 1 rfl) (by decide) ?_
          refine x_iadd C (k_dg dt_L_law_6 4 474 (.iadd) 1 rfl) ?_
          refine x_xld C hX (k_dg dt_L_law_6 5 475 (.iaload) 1 rfl) (fun v60 => ?_)
          refine x_aload_n C (k_dg dt_L_law_6 6 476 (.aload_n 0) 1 rfl) 0 rfl ?_
          refine x_iload_n C (k_dg dt_L_law_6 7 477 (.iload_n 3) 1 rfl) 3 rfl ?_
          refine x_iconst C (v := 2) (k_dg dt_L_law_6 8 478 (.iconst 2) 1 rfl) (by decide) ?_
          refine x_iadd C (k_dg dt_L_law_6 9 479 (.iadd) 1 rfl) ?_
          refine x_xld C hX (k_dg dt_L_law_6 10 480 (.iaload) 1 rfl) (fun v61 => ?_)
          refine x_callV C (a := 76) (kd := 10) (vs := [Value.int v60, Value.int v61]) (rest := [Value.int r58]) rfl rfl (by decide) (fun r hr => by cases hr; rfl) (c_X12_set C.2.2.2.2.2.2.2.2.2 G.2.1 v60 v61 M59) cy_X12_set lk_RL_47 im_X12_set se_X12_set (by decide) (by decide) (by show c + 0 ≤ 600000; omega) (by show s + 0 ≤ 7302250; omega) rfl rfl (Nat.le_of_ble_eq_true rfl) (k_dg dt_L_law_6 11 481 (.invokevirtual 47) 3 rfl) (fun r62 M63 => ?_)
          show Sm Z G _ _ (c, s) _ [(0, Value.ref b), (1, k_ra Z 0), (2, k_ra Z 76), (3, Value.int l3)] [Value.int r62, Value.int r58] _ _
          refine x_icmp_eq C (tgt := 1448) (k_dg dt_L_law_6 12 484 (.if_icmp .eq 964) 3 rfl) (by decide) (fun _ => ?_) (fun _ => ?_)
          · refine x_iinc C (v := 6) (lv' := [(3, Value.int (l3 + 6)), (0, Value.ref b), (1, k_ra Z 0), (2, k_ra Z 76)]) (k_dg dt_L_law_25 16 1448 (.iinc 3 6) 3 rfl) 3 rfl (by decide) (by decide) rfl ?_
            refine x_goto C (tgt := 18) (k_dg dt_L_law_25 17 1451 (.goto (-1433)) 3 rfl) (by decide) ?_
            refine x_lv [1, 2, 3, 0] rfl ?_
            exact ih (c) (s) (by omega) (by omega) (l3 + 6) M63
          · refine x_iconst C (v := 0) (k_dg dt_L_law_6 13 487 (.iconst 0) 1 rfl) (by decide) ?_
            exact x_zret C (by show c ≤ 600000; omega) (by show s ≤ 7302250; omega) rfl (k_dg dt_L_law_6 14 488 (.ireturn) 1 rfl)
        | 7, _ =>
          show Sm Z G emI _ _ 489 _ _ _ (rdX L xs (l3 + 1) (fun v64 => bd (f_X11_rain v64 M) (fun r65 M66 => rdX L xs (l3 + 1) (fun v67 => bd (f_X12_rain v67 M66) (fun r68 M69 => if r65 = r68 then f_law L xs n (l3 + 6) M69 else some (0, M69))))))
          refine x_aload_n C (k_dg dt_L_law_6 15 489 (.aload_n 1) 1 rfl) 1 rfl ?_
          refine x_aload_n C (k_dg dt_L_law_6 16 490 (.aload_n 0) 1 rfl) 0 rfl ?_
          refine x_iload_n C (k_dg dt_L_law_6 17 491 (.iload_n 3) 1 rfl) 3 rfl ?_
          refine x_iconst C (v := 1) (k_dg dt_L_law_6 18 492 (.iconst 1) 1 rfl) (by decide) ?_
          refine x_iadd C (k_dg dt_L_law_6 19 493 (.iadd) 1 rfl) ?_
          refine x_xld C hX (k_dg dt_L_law_6 20 494 (.iaload) 1 rfl) (fun v64 => ?_)
          refine x_callV C (a := 0) (kd := 9) (vs := [Value.int v64]) (rest := []) rfl rfl (by decide) (fun r hr => by cases hr; rfl) (c_X11_rain C.2.2.2.2.2.2.2.2.2 G.2.1 v64 M) cy_X11_rain lk_RL_48 im_X11_rain se_X11_rain (by decide) (by decide) (by show c + 0 ≤ 600000; omega) (by show s + 0 ≤ 7302250; omega) rfl rfl (Nat.le_of_ble_eq_true rfl) (k_dg dt_L_law_6 21 495 (.invokevirtual 48) 3 rfl) (fun r65 M66 => ?_)
          show Sm Z G _ _ (c, s) _ [(0, Value.ref b), (1, k_ra Z 0), (2, k_ra Z 76), (3, Value.int l3)] [Value.int r65] _ _
          refine x_aload_n C (k_dg dt_L_law_6 22 498 (.aload_n 2) 1 rfl) 2 rfl ?_
          refine x_aload_n C (k_dg dt_L_law_6 23 499 (.aload_n 0) 1 rfl) 0 rfl ?_
          refine x_iload_n C (k_dg dt_L_law_6 24 500 (.iload_n 3) 1 rfl) 3 rfl ?_
          refine x_iconst C (v := 1) (k_dg dt_L_law_6 25 501 (.iconst 1) 1 rfl) (by decide) ?_
          refine x_iadd C (k_dg dt_L_law_6 26 502 (.iadd) 1 rfl) ?_
          refine x_xld C hX (k_dg dt_L_law_6 27 503 (.iaload) 1 rfl) (fun v67 => ?_)
          refine x_callV C (a := 76) (kd := 10) (vs := [Value.int v67]) (rest := [Value.int r65]) rfl rfl (by decide) (fun r hr => by cases hr; rfl) (c_X12_rain C.2.2.2.2.2.2.2.2.2 G.2.1 v67 M66) cy_X12_rain lk_RL_52 im_X12_rain se_X12_rain (by decide) (by decide) (by show c + 0 ≤ 600000; omega) (by show s + 0 ≤ 7302250; omega) rfl rfl (Nat.le_of_ble_eq_true rfl) (k_dg dt_L_law_6 28 504 (.invokevirtual 52) 3 rfl) (fun r68 M69 => ?_)
          show Sm Z G _ _ (c, s) _ [(0, Value.ref b), (1, k_ra Z 0), (2, k_ra Z 76), (3, Value.int l3)] [Value.int r68, Value.int r65] _ _
          refine x_icmp_eq C (tgt := 1448) (k_dg dt_L_law_6 29 507 (.if_icmp .eq 941) 3 rfl) (by decide) (fun _ => ?_) (fun _ => ?_)
          · refine x_iinc C (v := 6) (lv' := [(3, Value.int (l3 + 6)), (0, Value.ref b), (1, k_ra Z 0), (2, k_ra Z 76)]) (k_dg dt_L_law_25 16 1448 (.iinc 3 6) 3 rfl) 3 rfl (by decide) (by decide) rfl ?_
            refine x_goto C (tgt := 18) (k_dg dt_L_law_25 17 1451 (.goto (-1433)) 3 rfl) (by decide) ?_
            refine x_lv [1, 2, 3, 0] rfl ?_
            exact ih (c) (s) (by omega) (by omega) (l3 + 6) M69
          · refine x_iconst C (v := 0) (k_dg dt_L_law_6 30 510 (.iconst 0) 1 rfl) (by decide) ?_
            exact x_zret C (by show c ≤ 600000; omega) (by show s ≤ 7302250; omega) rfl (k_dg dt_L_law_6 31 511 (.ireturn) 1 rfl)
        | 8, _ =>
          show Sm Z G emI _ _ 512 _ _ _ (rdX L xs (l3 + 1) (fun v70 => rdX L xs (l3 + 2) (fun v71 => rdX L xs (l3 + 3) (fun v72 => rdX L xs (l3 + 4) (fun v73 => bd (f_X11_city v70 v71 v72 v73 M) (fun r74 M75 => rdX L xs (l3 + 1) (fun v76 => rdX L xs (l3 + 2) (fun v77 => rdX L xs (l3 + 3) (fun v78 => rdX L xs (l3 + 4) (fun v79 => bd (f_X12_city v76 v77 v78 v79 M75) (fun r80 M81 => if r74 = r80 then f_law L xs n (l3 + 6) M81 else some (0, M81))))))))))))
          refine x_aload_n C (k_dg dt_L_law_6 32 512 (.aload_n 1) 1 rfl) 1 rfl ?_
          refine x_aload_n C (k_dg dt_L_law_6 33 513 (.aload_n 0) 1 rfl) 0 rfl ?_
          refine x_iload_n C (k_dg dt_L_law_6 34 514 (.iload_n 3) 1 rfl) 3 rfl ?_
          refine x_iconst C (v := 1) (k_dg dt_L_law_6 35 515 (.iconst 1) 1 rfl) (by decide) ?_
          refine x_iadd C (k_dg dt_L_law_6 36 516 (.iadd) 1 rfl) ?_
          refine x_xld C hX (k_dg dt_L_law_6 37 517 (.iaload) 1 rfl) (fun v70 => ?_)
          refine x_aload_n C (k_dg dt_L_law_6 38 518 (.aload_n 0) 1 rfl) 0 rfl ?_
          refine x_iload_n C (k_dg dt_L_law_6 39 519 (.iload_n 3) 1 rfl) 3 rfl ?_
          refine x_iconst C (v := 2) (k_dg dt_L_law_7 0 520 (.iconst 2) 1 rfl) (by decide) ?_
          refine x_iadd C (k_dg dt_L_law_7 1 521 (.iadd) 1 rfl) ?_
          refine x_xld C hX (k_dg dt_L_law_7 2 522 (.iaload) 1 rfl) (fun v71 => ?_)
          refine x_aload_n C (k_dg dt_L_law_7 3 523 (.aload_n 0) 1 rfl) 0 rfl ?_
          refine x_iload_n C (k_dg dt_L_law_7 4 524 (.iload_n 3) 1 rfl) 3 rfl ?_
          refine x_iconst C (v := 3) (k_dg dt_L_law_7 5 525 (.iconst 3) 1 rfl) (by decide) ?_
          refine x_iadd C (k_dg dt_L_law_7 6 526 (.iadd) 1 rfl) ?_
          refine x_xld C hX (k_dg dt_L_law_7 7 527 (.iaload) 1 rfl) (fun v72 => ?_)
          refine x_aload_n C (k_dg dt_L_law_7 8 528 (.aload_n 0) 1 rfl) 0 rfl ?_
          refine x_iload_n C (k_dg dt_L_law_7 9 529 (.iload_n 3) 1 rfl) 3 rfl ?_
          refine x_iconst C (v := 4) (k_dg dt_L_law_7 10 530 (.iconst 4) 1 rfl) (by decide) ?_
          refine x_iadd C (k_dg dt_L_law_7 11 531 (.iadd) 1 rfl) ?_
          refine x_xld C hX (k_dg dt_L_law_7 12 532 (.iaload) 1 rfl) (fun v73 => ?_)
          refine x_callV C (a := 0) (kd := 9) (vs := [Value.int v70, Value.int v71, Value.int v72, Value.int v73]) (rest := []) rfl rfl (by decide) (fun r hr => by cases hr; rfl) (c_X11_city C.2.2.2.2.2.2.2.2.2 G.2.1 v70 v71 v72 v73 M) cy_X11_city lk_RL_53 im_X11_city se_X11_city (by decide) (by decide) (by show c + 0 ≤ 600000; omega) (by show s + 0 ≤ 7302250; omega) rfl rfl (Nat.le_of_ble_eq_true rfl) (k_dg dt_L_law_7 13 533 (.invokevirtual 53) 3 rfl) (fun r74 M75 => ?_)
          show Sm Z G _ _ (c, s) _ [(0, Value.ref b), (1, k_ra Z 0), (2, k_ra Z 76), (3, Value.int l3)] [Value.int r74] _ _
          refine x_aload_n C (k_dg dt_L_law_7 14 536 (.aload_n 2) 1 rfl) 2 rfl ?_
          refine x_aload_n C (k_dg dt_L_law_7 15 537 (.aload_n 0) 1 rfl) 0 rfl ?_
          refine x_iload_n C (k_dg dt_L_law_7 16 538 (.iload_n 3) 1 rfl) 3 rfl ?_
          refine x_iconst C (v := 1) (k_dg dt_L_law_7 17 539 (.iconst 1) 1 rfl) (by decide) ?_
          refine x_iadd C (k_dg dt_L_law_7 18 540 (.iadd) 1 rfl) ?_
          refine x_xld C hX (k_dg dt_L_law_7 19 541 (.iaload) 1 rfl) (fun v76 => ?_)
          refine x_aload_n C (k_dg dt_L_law_7 20 542 (.aload_n 0) 1 rfl) 0 rfl ?_
          refine x_iload_n C (k_dg dt_L_law_7 21 543 (.iload_n 3) 1 rfl) 3 rfl ?_
          refine x_iconst C (v := 2) (k_dg dt_L_law_7 22 544 (.iconst 2) 1 rfl) (by decide) ?_
          refine x_iadd C (k_dg dt_L_law_7 23 545 (.iadd) 1 rfl) ?_
          refine x_xld C hX (k_dg dt_L_law_7 24 546 (.iaload) 1 rfl) (fun v77 => ?_)
          refine x_aload_n C (k_dg dt_L_law_7 25 547 (.aload_n 0) 1 rfl) 0 rfl ?_
          refine x_iload_n C (k_dg dt_L_law_7 26 548 (.iload_n 3) 1 rfl) 3 rfl ?_
          refine x_iconst C (v := 3) (k_dg dt_L_law_7 27 549 (.iconst 3) 1 rfl) (by decide) ?_
          refine x_iadd C (k_dg dt_L_law_7 28 550 (.iadd) 1 rfl) ?_
          refine x_xld C hX (k_dg dt_L_law_7 29 551 (.iaload) 1 rfl) (fun v78 => ?_)
          refine x_aload_n C (k_dg dt_L_law_7 30 552 (.aload_n 0) 1 rfl) 0 rfl ?_
          refine x_iload_n C (k_dg dt_L_law_7 31 553 (.iload_n 3) 1 rfl) 3 rfl ?_
          refine x_iconst C (v := 4) (k_dg dt_L_law_7 32 554 (.iconst 4) 1 rfl) (by decide) ?_
          refine x_iadd C (k_dg dt_L_law_7 33 555 (.iadd) 1 rfl) ?_
          refine x_xld C hX (k_dg dt_L_law_7 34 556 (.iaload) 1 rfl) (fun v79 => ?_)
          refine x_callV C (a := 76) (kd := 10) (vs := [Value.int v76, Value.int v77, Value.int v78, Value.int v79]) (rest := [Value.int r74]) rfl rfl (by decide) (fun r hr => by cases hr; rfl) (c_X12_city C.2.2.2.2.2.2.2.2.2 G.2.1 v76 v77 v78 v79 M75) cy_X12_city lk_RL_57 im_X12_city se_X12_city (by decide) (by decide) (by show c + 0 ≤ 600000; omega) (by show s + 0 ≤ 7302250; omega) rfl rfl (Nat.le_of_ble_eq_true rfl) (k_dg dt_L_law_7 35 557 (.invokevirtual 57) 3 rfl) (fun r80 M81 => ?_)
          show Sm Z G _ _ (c, s) _ [(0, Value.ref b), (1, k_ra Z 0), (2, k_ra Z 76), (3, Value.int l3)] [Value.int r80, Value.int r74] _ _
          refine x_icmp_eq C (tgt := 1448) (k_dg dt_L_law_7 36 560 (.if_icmp .eq 888) 3 rfl) (by decide) (fun _ => ?_) (fun _ => ?_)
          · refine x_iinc C (v := 6) (lv' := [(3, Value.int (l3 + 6)), (0, Value.ref b), (1, k_ra Z 0), (2, k_ra Z 76)]) (k_dg dt_L_law_25 16 1448 (.iinc 3 6) 3 rfl) 3 rfl (by decide) (by decide) rfl ?_
            refine x_goto C (tgt := 18) (k_dg dt_L_law_25 17 1451 (.goto (-1433)) 3 rfl) (by decide) ?_
            refine x_lv [1, 2, 3, 0] rfl ?_
            exact ih (c) (s) (by omega) (by omega) (l3 + 6) M81
          · refine x_iconst C (v := 0) (k_dg dt_L_law_7 37 563 (.iconst 0) 1 rfl) (by decide) ?_
            exact x_zret C (by show c ≤ 600000; omega) (by show s ≤ 7302250; omega) rfl (k_dg dt_L_law_7 38 564 (.ireturn) 1 rfl)
        | 9, _ =>
          show Sm Z G emI _ _ 565 _ _ _ (rdX L xs (l3 + 1) (fun v82 => bd (f_X11_cityOf v82 M) (fun r83 M84 => rdX L xs (l3 + 1) (fun v85 => bd (f_X12_cityOf v85 M84) (fun r86 M87 => if r83 = r86 then f_law L xs n (l3 + 6) M87 else some (0, M87))))))
          refine x_aload_n C (k_dg dt_L_law_7 39 565 (.aload_n 1) 1 rfl) 1 rfl ?_
          refine x_aload_n C (k_dg dt_L_law_8 0 566 (.aload_n 0) 1 rfl) 0 rfl ?_
          refine x_iload_n C (k_dg dt_L_law_8 1 567 (.iload_n 3) 1 rfl) 3 rfl ?_
          refine x_iconst C (v := 1) (k_dg dt_L_law_8 2 568 (.iconst 1) 1 rfl) (by decide) ?_
          refine x_iadd C (k_dg dt_L_law_8 3 569 (.iadd) 1 rfl) ?_
          refine x_xld C hX (k_dg dt_L_law_8 4 570 (.iaload) 1 rfl) (fun v82 => ?_)
          refine x_callV C (a := 0) (kd := 9) (vs := [Value.int v82]) (rest := []) rfl rfl (by decide) (fun r hr => by cases hr; rfl) (c_X11_cityOf C.2.2.2.2.2.2.2.2.2 G.2.1 v82 M) cy_X11_cityOf lk_RL_58 im_X11_cityOf se_X11_cityOf (by decide) (by decide) (by show c + 0 ≤ 600000; omega) (by show s + 0 ≤ 7302250; omega) rfl rfl (Nat.le_of_ble_eq_true rfl) (k_dg dt_L_law_8 5 571 (.invokevirtual 58) 3 rfl) (fun r83 M84 => ?_)
          show Sm Z G _ _ (c, s) _ [(0, Value.ref b), (1, k_ra Z 0), (2, k_ra Z 76), (3, Value.int l3)] [Value.int r83] _ _
          refine x_aload_n C (k_dg dt_L_law_8 6 574 (.aload_n 2) 1 rfl) 2 rfl ?_
          refine x_aload_n C (k_dg dt_L_law_8 7 575 (.aload_n 0) 1 rfl) 0 rfl ?_
          refine x_iload_n C (k_dg dt_L_law_8 8 576 (.iload_n 3) 1 rfl) 3 rfl ?_
          refine x_iconst C (v := 1) (k_dg dt_L_law_8 9 577 (.iconst 1) 1 rfl) (by decide) ?_
          refine x_iadd C (k_dg dt_L_law_8 10 578 (.iadd) 1 rfl) ?_
          refine x_xld C hX (k_dg dt_L_law_8 11 579 (.iaload) 1 rfl) (fun v85 => ?_)
          refine x_callV C (a := 76) (kd := 10) (vs := [Value.int v85]) (rest := [Value.int r83]) rfl rfl (by decide) (fun r hr => by cases hr; rfl) (c_X12_cityOf C.2.2.2.2.2.2.2.2.2 G.2.1 v85 M84) cy_X12_cityOf lk_RL_61 im_X12_cityOf se_X12_cityOf (by decide) (by decide) (by show c + 0 ≤ 600000; omega) (by show s + 0 ≤ 7302250; omega) rfl rfl (Nat.le_of_ble_eq_true rfl) (k_dg dt_L_law_8 12 580 (.invokevirtual 61) 3 rfl) (fun r86 M87 => ?_)
          show Sm Z G _ _ (c, s) _ [(0, Value.ref b), (1, k_ra Z 0), (2, k_ra Z 76), (3, Value.int l3)] [Value.int r86, Value.int r83] _ _
          refine x_icmp_eq C (tgt := 1448) (k_dg dt_L_law_8 13 583 (.if_icmp .eq 865) 3 rfl) (by decide) (fun _ => ?_) (fun _ => ?_)
          · refine x_iinc C (v := 6) (lv' := [(3, Value.int (l3 + 6)), (0, Value.ref b), (1, k_ra Z 0), (2, k_ra Z 76)]) (k_dg dt_L_law_25 16 1448 (.iinc 3 6) 3 rfl) 3 rfl (by decide) (by decide) rfl ?_
            refine x_goto C (tgt := 18) (k_dg dt_L_law_25 17 1451 (.goto (-1433)) 3 rfl) (by decide) ?_
            refine x_lv [1, 2, 3, 0] rfl ?_
            exact ih (c) (s) (by omega) (by omega) (l3 + 6) M87
          · refine x_iconst C (v := 0) (k_dg dt_L_law_8 14 586 (.iconst 0) 1 rfl) (by decide) ?_
            exact x_zret C (by show c ≤ 600000; omega) (by show s ≤ 7302250; omega) rfl (k_dg dt_L_law_8 15 587 (.ireturn) 1 rfl)
        | 10, _ =>
          show Sm Z G emI _ _ 588 _ _ _ (rdX L xs (l3 + 1) (fun v88 => bd (f_X11_may v88 M) (fun r89 M90 => rdX L xs (l3 + 1) (fun v91 => bd (f_X12_may v91 M90) (fun r92 M93 => if r89 = r92 then f_law L xs n (l3 + 6) M93 else some (0, M93))))))
          refine x_aload_n C (k_dg dt_L_law_8 16 588 (.aload_n 1) 1 rfl) 1 rfl ?_
          refine x_aload_n C (k_dg dt_L_law_8 17 589 (.aload_n 0) 1 rfl) 0 rfl ?_
          refine x_iload_n C (k_dg dt_L_law_8 18 590 (.iload_n 3) 1 rfl) 3 rfl ?_
          refine x_iconst C (v := 1) (k_dg dt_L_law_8 19 591 (.iconst 1) 1 rfl) (by decide) ?_
          refine x_iadd C (k_dg dt_L_law_8 20 592 (.iadd) 1 rfl) ?_
          refine x_xld C hX (k_dg dt_L_law_8 21 593 (.iaload) 1 rfl) (fun v88 => ?_)
          refine x_callV C (a := 0) (kd := 9) (vs := [Value.int v88]) (rest := []) rfl rfl (by decide) (fun r hr => by cases hr; rfl) (c_X11_may C.2.2.2.2.2.2.2.2.2 G.2.1 v88 M) cy_X11_may lk_RL_62 im_X11_may se_X11_may (by decide) (by decide) (by show c + 0 ≤ 600000; omega) (by show s + 0 ≤ 7302250; omega) rfl rfl (Nat.le_of_ble_eq_true rfl) (k_dg dt_L_law_8 22 594 (.invokevirtual 62) 3 rfl) (fun r89 M90 => ?_)
          show Sm Z G _ _ (c, s) _ [(0, Value.ref b), (1, k_ra Z 0), (2, k_ra Z 76), (3, Value.int l3)] [Value.int r89] _ _
          refine x_aload_n C (k_dg dt_L_law_8 23 597 (.aload_n 2) 1 rfl) 2 rfl ?_
          refine x_aload_n C (k_dg dt_L_law_8 24 598 (.aload_n 0) 1 rfl) 0 rfl ?_
          refine x_iload_n C (k_dg dt_L_law_8 25 599 (.iload_n 3) 1 rfl) 3 rfl ?_
          refine x_iconst C (v := 1) (k_dg dt_L_law_8 26 600 (.iconst 1) 1 rfl) (by decide) ?_
          refine x_iadd C (k_dg dt_L_law_8 27 601 (.iadd) 1 rfl) ?_
          refine x_xld C hX (k_dg dt_L_law_8 28 602 (.iaload) 1 rfl) (fun v91 => ?_)
          refine x_callV C (a := 76) (kd := 10) (vs := [Value.int v91]) (rest := [Value.int r89]) rfl rfl (by decide) (fun r hr => by cases hr; rfl) (c_X12_may C.2.2.2.2.2.2.2.2.2 G.2.1 v91 M90) cy_X12_may lk_RL_65 im_X12_may se_X12_may (by decide) (by decide) (by show c + 0 ≤ 600000; omega) (by show s + 0 ≤ 7302250; omega) rfl rfl (Nat.le_of_ble_eq_true rfl) (k_dg dt_L_law_8 29 603 (.invokevirtual 65) 3 rfl) (fun r92 M93 => ?_)
          show Sm Z G _ _ (c, s) _ [(0, Value.ref b), (1, k_ra Z 0), (2, k_ra Z 76), (3, Value.int l3)] [Value.int r92, Value.int r89] _ _
          refine x_icmp_eq C (tgt := 1448) (k_dg dt_L_law_8 30 606 (.if_icmp .eq 842) 3 rfl) (by decide) (fun _ => ?_) (fun _ => ?_)
          · refine x_iinc C (v := 6) (lv' := [(3, Value.int (l3 + 6)), (0, Value.ref b), (1, k_ra Z 0), (2, k_ra Z 76)]) (k_dg dt_L_law_25 16 1448 (.iinc 3 6) 3 rfl) 3 rfl (by decide) (by decide) rfl ?_
            refine x_goto C (tgt := 18) (k_dg dt_L_law_25 17 1451 (.goto (-1433)) 3 rfl) (by decide) ?_
            refine x_lv [1, 2, 3, 0] rfl ?_
            exact ih (c) (s) (by omega) (by omega) (l3 + 6) M93
          · refine x_iconst C (v := 0) (k_dg dt_L_law_8 31 609 (.iconst 0) 1 rfl) (by decide) ?_
            exact x_zret C (by show c ≤ 600000; omega) (by show s ≤ 7302250; omega) rfl (k_dg dt_L_law_8 32 610 (.ireturn) 1 rfl)
        | 11, _ =>
          show Sm Z G emI _ _ 611 _ _ _ (rdX L xs (l3 + 1) (fun v94 => bd (f_X11_does v94 M) (fun r95 M96 => rdX L xs (l3 + 1) (fun v97 => bd (f_X12_does v97 M96) (fun r98 M99 => if r95 = r98 then f_law L xs n (l3 + 6) M99 else some (0, M99))))))
          refine x_aload_n C (k_dg dt_L_law_8 33 611 (.aload_n 1) 1 rfl) 1 rfl ?_
          refine x_aload_n C (k_dg dt_L_law_8 34 612 (.aload_n 0) 1 rfl) 0 rfl ?_
          refine x_iload_n C (k_dg dt_L_law_8 35 613 (.iload_n 3) 1 rfl) 3 rfl ?_
          refine x_iconst C (v := 1) (k_dg dt_L_law_8 36 614 (.iconst 1) 1 rfl) (by decide) ?_
          refine x_iadd C (k_dg dt_L_law_8 37 615 (.iadd) 1 rfl) ?_
          refine x_xld C hX (k_dg dt_L_law_8 38 616 (.iaload) 1 rfl) (fun v94 => ?_)
          refine x_callV C (a := 0) (kd := 9) (vs := [Value.int v94]) (rest := []) rfl rfl (by decide) (fun r hr => by cases hr; rfl) (c_X11_does C.2.2.2.2.2.2.2.2.2 G.2.1 v94 M) cy_X11_does lk_RL_66 im_X11_does se_X11_does (by decide) (by decide) (by show c + 0 ≤ 600000; omega) (by show s + 0 ≤ 7302250; omega) rfl rfl (Nat.le_of_ble_eq_true rfl) (k_dg dt_L_law_8 39 617 (.invokevirtual 66) 3 rfl) (fun r95 M96 => ?_)
          show Sm Z G _ _ (c, s) _ [(0, Value.ref b), (1, k_ra Z 0), (2, k_ra Z 76), (3, Value.int l3)] [Value.int r95] _ _
          refine x_aload_n C (k_dg dt_L_law_9 0 620 (.aload_n 2) 1 rfl) 2 rfl ?_
          refine x_aload_n C (k_dg dt_L_law_9 1 621 (.aload_n 0) 1 rfl) 0 rfl ?_
          refine x_iload_n C (k_dg dt_L_law_9 2 622 (.iload_n 3) 1 rfl) 3 rfl ?_
          refine x_iconst C (v := 1) (k_dg dt_L_law_9 3 623 (.iconst 1) 1 rfl) (by decide) ?_
          refine x_iadd C (k_dg dt_L_law_9 4 624 (.iadd) 1 rfl) ?_
          refine x_xld C hX (k_dg dt_L_law_9 5 625 (.iaload) 1 rfl) (fun v97 => ?_)
          refine x_callV C (a := 76) (kd := 10) (vs := [Value.int v97]) (rest := [Value.int r95]) rfl rfl (by decide) (fun r hr => by cases hr; rfl) (c_X12_does C.2.2.2.2.2.2.2.2.2 G.2.1 v97 M96) cy_X12_does lk_RL_69 im_X12_does se_X12_does (by decide) (by decide) (by show c + 0 ≤ 600000; omega) (by show s + 0 ≤ 7302250; omega) rfl rfl (Nat.le_of_ble_eq_true rfl) (k_dg dt_L_law_9 6 626 (.invokevirtual 69) 3 rfl) (fun r98 M99 => ?_)
          show Sm Z G _ _ (c, s) _ [(0, Value.ref b), (1, k_ra Z 0), (2, k_ra Z 76), (3, Value.int l3)] [Value.int r98, Value.int r95] _ _
          refine x_icmp_eq C (tgt := 1448) (k_dg dt_L_law_9 7 629 (.if_icmp .eq 819) 3 rfl) (by decide) (fun _ => ?_) (fun _ => ?_)
          · refine x_iinc C (v := 6) (lv' := [(3, Value.int (l3 + 6)), (0, Value.ref b), (1, k_ra Z 0), (2, k_ra Z 76)]) (k_dg dt_L_law_25 16 1448 (.iinc 3 6) 3 rfl) 3 rfl (by decide) (by decide) rfl ?_
            refine x_goto C (tgt := 18) (k_dg dt_L_law_25 17 1451 (.goto (-1433)) 3 rfl) (by decide) ?_
            refine x_lv [1, 2, 3, 0] rfl ?_
            exact ih (c) (s) (by omega) (by omega) (l3 + 6) M99
          · refine x_iconst C (v := 0) (k_dg dt_L_law_9 8 632 (.iconst 0) 1 rfl) (by decide) ?_
            exact x_zret C (by show c ≤ 600000; omega) (by show s ≤ 7302250; omega) rfl (k_dg dt_L_law_9 9 633 (.ireturn) 1 rfl)
        | 12, _ =>
          show Sm Z G emI _ _ 634 _ _ _ (bd (f_X11_stuck M) (fun r100 M101 => bd (f_X12_stuck M101) (fun r102 M103 => if r100 = r102 then f_law L xs n (l3 + 6) M103 else some (0, M103))))
          refine x_aload_n C (k_dg dt_L_law_9 10 634 (.aload_n 1) 1 rfl) 1 rfl ?_
          refine x_callV C (a := 0) (kd := 9) (vs := []) (rest := []) rfl rfl (by decide) (fun r hr => by cases hr; rfl) (c_X11_stuck C.2.2.2.2.2.2.2.2.2 G.2.1 M) cy_X11_stuck lk_RL_70 im_X11_stuck se_X11_stuck (by decide) (by decide) (by show c + 0 ≤ 600000; omega) (by show s + 0 ≤ 7302250; omega) rfl rfl (Nat.le_of_ble_eq_true rfl) (k_dg dt_L_law_9 11 635 (.invokevirtual 70) 3 rfl) (fun r100 M101 => ?_)
          show Sm Z G _ _ (c, s) _ [(0, Value.ref b), (1, k_ra Z 0), (2, k_ra Z 76), (3, Value.int l3)] [Value.int r100] _ _
          refine x_aload_n C (k_dg dt_L_law_9 12 638 (.aload_n 2) 1 rfl) 2 rfl ?_
          refine x_callV C (a := 76) (kd := 10) (vs := []) (rest := [Value.int r100]) rfl rfl (by decide) (fun r hr => by cases hr; rfl) (c_X12_stuck C.2.2.2.2.2.2.2.2.2 G.2.1 M101) cy_X12_stuck lk_RL_73 im_X12_stuck se_X12_stuck (by decide) (by decide) (by show c + 0 ≤ 600000; omega) (by show s + 0 ≤ 7302250; omega) rfl rfl (Nat.le_of_ble_eq_true rfl) (k_dg dt_L_law_9 13 639 (.invokevirtual 73) 3 rfl) (fun r102 M103 => ?_)
          show Sm Z G _ _ (c, s) _ [(0, Value.ref b), (1, k_ra Z 0), (2, k_ra Z 76), (3, Value.int l3)] [Value.int r102, Value.int r100] _ _
          refine x_icmp_eq C (tgt := 1448) (k_dg dt_L_law_9 14 642 (.if_icmp .eq 806) 3 rfl) (by decide) (fun _ => ?_) (fun _ => ?_)
          · refine x_iinc C (v := 6) (lv' := [(3, Value.int (l3 + 6)), (0, Value.ref b), (1, k_ra Z 0), (2, k_ra Z 76)]) (k_dg dt_L_law_25 16 1448 (.iinc 3 6) 3 rfl) 3 rfl (by decide) (by decide) rfl ?_
            refine x_goto C (tgt := 18) (k_dg dt_L_law_25 17 1451 (.goto (-1433)) 3 rfl) (by decide) ?_
            refine x_lv [1, 2, 3, 0] rfl ?_
            exact ih (c) (s) (by omega) (by omega) (l3 + 6) M103
          · refine x_iconst C (v := 0) (k_dg dt_L_law_9 15 645 (.iconst 0) 1 rfl) (by decide) ?_
            exact x_zret C (by show c ≤ 600000; omega) (by show s ≤ 7302250; omega) rfl (k_dg dt_L_law_9 16 646 (.ireturn) 1 rfl)
        | 13, _ =>
          show Sm Z G emI _ _ 647 _ _ _ (rdX L xs (l3 + 1) (fun v104 => rdX L xs (l3 + 2) (fun v105 => bd (f_X11_best v104 v105 M) (fun r106 M107 => rdX L xs (l3 + 1) (fun v108 => rdX L xs (l3 + 2) (fun v109 => bd (f_X12_best v108 v109 M107) (fun r110 M111 => if r106 = r110 then f_law L xs n (l3 + 6) M111 else some (0, M111))))))))
          refine x_aload_n C (k_dg dt_L_law_9 17 647 (.aload_n 1) 1 rfl) 1 rfl ?_
          refine x_aload_n C (k_dg dt_L_law_9 18 648 (.aload_n 0) 1 rfl) 0 rfl ?_
          refine x_iload_n C (k_dg dt_L_law_9 19 649 (.iload_n 3) 1 rfl) 3 rfl ?_
          refine x_iconst C (v := 1) (k_dg dt_L_law_9 20 650 (.iconst 1) 1 rfl) (by decide) ?_
          refine x_iadd C (k_dg dt_L_law_9 21 651 (.iadd) 1 rfl) ?_
          refine x_xld C hX (k_dg dt_L_law_9 22 652 (.iaload) 1 rfl) (fun v104 => ?_)
          refine x_aload_n C (k_dg dt_L_law_9 23 653 (.aload_n 0) 1 rfl) 0 rfl ?_
          refine x_iload_n C (k_dg dt_L_law_9 24 654 (.iload_n 3) 1 rfl) 3 rfl ?_
          refine x_iconst C (v := 2) (k_dg dt_L_law_9 25 655 (.iconst 2) 1 rfl) (by decide) ?_
          refine x_iadd C (k_dg dt_L_law_9 26 656 (.iadd) 1 rfl) ?_
          refine x_xld C hX (k_dg dt_L_law_9 27 657 (.iaload) 1 rfl) (fun v105 => ?_)
          refine x_callV C (a := 0) (kd := 9) (vs := [Value.int v104, Value.int v105]) (rest := []) rfl rfl (by decide) (fun r hr => by cases hr; rfl) (c_X11_best C.2.2.2.2.2.2.2.2.2 G.2.1 v104 v105 M) cy_X11_best lk_RL_74 im_X11_best se_X11_best (by decide) (by decide) (by show c + 0 ≤ 600000; omega) (by show s + 0 ≤ 7302250; omega) rfl rfl (Nat.le_of_ble_eq_true rfl) (k_dg dt_L_law_9 28 658 (.invokevirtual 74) 3 rfl) (fun r106 M107 => ?_)
          show Sm Z G _ _ (c, s) _ [(0, Value.ref b), (1, k_ra Z 0), (2, k_ra Z 76), (3, Value.int l3)] [Value.int r106] _ _
          refine x_aload_n C (k_dg dt_L_law_9 29 661 (.aload_n 2) 1 rfl) 2 rfl ?_
          refine x_aload_n C (k_dg dt_L_law_9 30 662 (.aload_n 0) 1 rfl) 0 rfl ?_
          refine x_iload_n C (k_dg dt_L_law_9 31 663 (.iload_n 3) 1 rfl) 3 rfl ?_
          refine x_iconst C (v := 1) (k_dg dt_L_law_9 32 664 (.iconst 1) 1 rfl) (by decide) ?_
          refine x_iadd C (k_dg dt_L_law_9 33 665 (.iadd) 1 rfl) ?_
          refine x_xld C hX (k_dg dt_L_law_9 34 666 (.iaload) 1 rfl) (fun v108 => ?_)
          refine x_aload_n C (k_dg dt_L_law_9 35 667 (.aload_n 0) 1 rfl) 0 rfl ?_
          refine x_iload_n C (k_dg dt_L_law_9 36 668 (.iload_n 3) 1 rfl) 3 rfl ?_
          refine x_iconst C (v := 2) (k_dg dt_L_law_9 37 669 (.iconst 2) 1 rfl) (by decide) ?_
          refine x_iadd C (k_dg dt_L_law_9 38 670 (.iadd) 1 rfl) ?_
          refine x_xld C hX (k_dg dt_L_law_9 39 671 (.iaload) 1 rfl) (fun v109 => ?_)
          refine x_callV C (a := 76) (kd := 10) (vs := [Value.int v108, Value.int v109]) (rest := [Value.int r106]) rfl rfl (by decide) (fun r hr => by cases hr; rfl) (c_X12_best C.2.2.2.2.2.2.2.2.2 G.2.1 v108 v109 M107) cy_X12_best lk_RL_77 im_X12_best se_X12_best (by decide) (by decide) (by show c + 0 ≤ 600000; omega) (by show s + 0 ≤ 7302250; omega) rfl rfl (Nat.le_of_ble_eq_true rfl) (k_dg dt_L_law_10 0 672 (.invokevirtual 77) 3 rfl) (fun r110 M111 => ?_)
          show Sm Z G _ _ (c, s) _ [(0, Value.ref b), (1, k_ra Z 0), (2, k_ra Z 76), (3, Value.int l3)] [Value.int r110, Value.int r106] _ _
          refine x_icmp_eq C (tgt := 1448) (k_dg dt_L_law_10 1 675 (.if_icmp .eq 773) 3 rfl) (by decide) (fun _ => ?_) (fun _ => ?_)
          · refine x_iinc C (v := 6) (lv' := [(3, Value.int (l3 + 6)), (0, Value.ref b), (1, k_ra Z 0), (2, k_ra Z 76)]) (k_dg dt_L_law_25 16 1448 (.iinc 3 6) 3 rfl) 3 rfl (by decide) (by decide) rfl ?_
            refine x_goto C (tgt := 18) (k_dg dt_L_law_25 17 1451 (.goto (-1433)) 3 rfl) (by decide) ?_
            refine x_lv [1, 2, 3, 0] rfl ?_
            exact ih (c) (s) (by omega) (by omega) (l3 + 6) M111
          · refine x_iconst C (v := 0) (k_dg dt_L_law_10 2 678 (.iconst 0) 1 rfl) (by decide) ?_
            exact x_zret C (by show c ≤ 600000; omega) (by show s ≤ 7302250; omega) rfl (k_dg dt_L_law_10 3 679 (.ireturn) 1 rfl)
        | 14, _ =>
          show Sm Z G emI _ _ 680 _ _ _ (bd (f_X11_last M) (fun r112 M113 => bd (f_X12_last M113) (fun r114 M115 => if r112 = r114 then f_law L xs n (l3 + 6) M115 else some (0, M115))))
          refine x_aload_n C (k_dg dt_L_law_10 4 680 (.aload_n 1) 1 rfl) 1 rfl ?_
          refine x_callV C (a := 0) (kd := 9) (vs := []) (rest := []) rfl rfl (by decide) (fun r hr => by cases hr; rfl) (c_X11_last C.2.2.2.2.2.2.2.2.2 G.2.1 M) cy_X11_last lk_RL_78 im_X11_last se_X11_last (by decide) (by decide) (by show c + 0 ≤ 600000; omega) (by show s + 0 ≤ 7302250; omega) rfl rfl (Nat.le_of_ble_eq_true rfl) (k_dg dt_L_law_10 5 681 (.invokevirtual 78) 3 rfl) (fun r112 M113 => ?_)
          show Sm Z G _ _ (c, s) _ [(0, Value.ref b), (1, k_ra Z 0), (2, k_ra Z 76), (3, Value.int l3)] [Value.int r112] _ _
          refine x_aload_n C (k_dg dt_L_law_10 6 684 (.aload_n 2) 1 rfl) 2 rfl ?_
          refine x_callV C (a := 76) (kd := 10) (vs := []) (rest := [Value.int r112]) rfl rfl (by decide) (fun r hr => by cases hr; rfl) (c_X12_last C.2.2.2.2.2.2.2.2.2 G.2.1 M113) cy_X12_last lk_RL_81 im_X12_last se_X12_last (by decide) (by decide) (by show c + 0 ≤ 600000; omega) (by show s + 0 ≤ 7302250; omega) rfl rfl (Nat.le_of_ble_eq_true rfl) (k_dg dt_L_law_10 7 685 (.invokevirtual 81) 3 rfl) (fun r114 M115 => ?_)
          show Sm Z G _ _ (c, s) _ [(0, Value.ref b), (1, k_ra Z 0), (2, k_ra Z 76), (3, Value.int l3)] [Value.int r114, Value.int r112] _ _
          refine x_icmp_eq C (tgt := 1448) (k_dg dt_L_law_10 8 688 (.if_icmp .eq 760) 3 rfl) (by decide) (fun _ => ?_) (fun _ => ?_)
          · refine x_iinc C (v := 6) (lv' := [(3, Value.int (l3 + 6)), (0, Value.ref b), (1, k_ra Z 0), (2, k_ra Z 76)]) (k_dg dt_L_law_25 16 1448 (.iinc 3 6) 3 rfl) 3 rfl (by decide) (by decide) rfl ?_
            refine x_goto C (tgt := 18) (k_dg dt_L_law_25 17 1451 (.goto (-1433)) 3 rfl) (by decide) ?_
            refine x_lv [1, 2, 3, 0] rfl ?_
            exact ih (c) (s) (by omega) (by omega) (l3 + 6) M115
          · refine x_iconst C (v := 0) (k_dg dt_L_law_10 9 691 (.iconst 0) 1 rfl) (by decide) ?_
            exact x_zret C (by show c ≤ 600000; omega) (by show s ≤ 7302250; omega) rfl (k_dg dt_L_law_10 10 692 (.ireturn) 1 rfl)
        | 15, _ =>
          show Sm Z G emI _ _ 693 _ _ _ (rdX L xs (l3 + 1) (fun v116 => rdX L xs (l3 + 2) (fun v117 => bd (f_X11_surest v116 v117 M) (fun r118 M119 => rdX L xs (l3 + 1) (fun v120 => rdX L xs (l3 + 2) (fun v121 => bd (f_X12_surest v120 v121 M119) (fun r122 M123 => if r118 = r122 then f_law L xs n (l3 + 6) M123 else some (0, M123))))))))
          refine x_aload_n C (k_dg dt_L_law_10 11 693 (.aload_n 1) 1 rfl) 1 rfl ?_
          refine x_aload_n C (k_dg dt_L_law_10 12 694 (.aload_n 0) 1 rfl) 0 rfl ?_
          refine x_iload_n C (k_dg dt_L_law_10 13 695 (.iload_n 3) 1 rfl) 3 rfl ?_
          refine x_iconst C (v := 1) (k_dg dt_L_law_10 14 696 (.iconst 1) 1 rfl) (by decide) ?_
          refine x_iadd C (k_dg dt_L_law_10 15 697 (.iadd) 1 rfl) ?_
          refine x_xld C hX (k_dg dt_L_law_10 16 698 (.iaload) 1 rfl) (fun v116 => ?_)
          refine x_aload_n C (k_dg dt_L_law_10 17 699 (.aload_n 0) 1 rfl) 0 rfl ?_
          refine x_iload_n C (k_dg dt_L_law_10 18 700 (.iload_n 3) 1 rfl) 3 rfl ?_
          refine x_iconst C (v := 2) (k_dg dt_L_law_10 19 701 (.iconst 2) 1 rfl) (by decide) ?_
          refine x_iadd C (k_dg dt_L_law_10 20 702 (.iadd) 1 rfl) ?_
          refine x_xld C hX (k_dg dt_L_law_10 21 703 (.iaload) 1 rfl) (fun v117 => ?_)
          refine x_callV C (a := 0) (kd := 9) (vs := [Value.int v116, Value.int v117]) (rest := []) rfl rfl (by decide) (fun r hr => by cases hr; rfl) (c_X11_surest C.2.2.2.2.2.2.2.2.2 G.2.1 v116 v117 M) cy_X11_surest lk_RL_82 im_X11_surest se_X11_surest (by decide) (by decide) (by show c + 0 ≤ 600000; omega) (by show s + 0 ≤ 7302250; omega) rfl rfl (Nat.le_of_ble_eq_true rfl) (k_dg dt_L_law_10 22 704 (.invokevirtual 82) 3 rfl) (fun r118 M119 => ?_)
          show Sm Z G _ _ (c, s) _ [(0, Value.ref b), (1, k_ra Z 0), (2, k_ra Z 76), (3, Value.int l3)] [Value.int r118] _ _
          refine x_aload_n C (k_dg dt_L_law_10 23 707 (.aload_n 2) 1 rfl) 2 rfl ?_
          refine x_aload_n C (k_dg dt_L_law_10 24 708 (.aload_n 0) 1 rfl) 0 rfl ?_
          refine x_iload_n C (k_dg dt_L_law_10 25 709 (.iload_n 3) 1 rfl) 3 rfl ?_
          refine x_iconst C (v := 1) (k_dg dt_L_law_10 26 710 (.iconst 1) 1 rfl) (by decide) ?_
          refine x_iadd C (k_dg dt_L_law_10 27 711 (.iadd) 1 rfl) ?_
          refine x_xld C hX (k_dg dt_L_law_10 28 712 (.iaload) 1 rfl) (fun v120 => ?_)
          refine x_aload_n C (k_dg dt_L_law_10 29 713 (.aload_n 0) 1 rfl) 0 rfl ?_
          refine x_iload_n C (k_dg dt_L_law_10 30 714 (.iload_n 3) 1 rfl) 3 rfl ?_
          refine x_iconst C (v := 2) (k_dg dt_L_law_10 31 715 (.iconst 2) 1 rfl) (by decide) ?_
          refine x_iadd C (k_dg dt_L_law_10 32 716 (.iadd) 1 rfl) ?_
          refine x_xld C hX (k_dg dt_L_law_10 33 717 (.iaload) 1 rfl) (fun v121 => ?_)
          refine x_callV C (a := 76) (kd := 10) (vs := [Value.int v120, Value.int v121]) (rest := [Value.int r118]) rfl rfl (by decide) (fun r hr => by cases hr; rfl) (c_X12_surest C.2.2.2.2.2.2.2.2.2 G.2.1 v120 v121 M119) cy_X12_surest lk_RL_85 im_X12_surest se_X12_surest (by decide) (by decide) (by show c + 0 ≤ 600000; omega) (by show s + 0 ≤ 7302250; omega) rfl rfl (Nat.le_of_ble_eq_true rfl) (k_dg dt_L_law_10 34 718 (.invokevirtual 85) 3 rfl) (fun r122 M123 => ?_)
          show Sm Z G _ _ (c, s) _ [(0, Value.ref b), (1, k_ra Z 0), (2, k_ra Z 76), (3, Value.int l3)] [Value.int r122, Value.int r118] _ _
          refine x_icmp_eq C (tgt := 1448) (k_dg dt_L_law_10 35 721 (.if_icmp .eq 727) 3 rfl) (by decide) (fun _ => ?_) (fun _ => ?_)
          · refine x_iinc C (v := 6) (lv' := [(3, Value.int (l3 + 6)), (0, Value.ref b), (1, k_ra Z 0), (2, k_ra Z 76)]) (k_dg dt_L_law_25 16 1448 (.iinc 3 6) 3 rfl) 3 rfl (by decide) (by decide) rfl ?_
            refine x_goto C (tgt := 18) (k_dg dt_L_law_25 17 1451 (.goto (-1433)) 3 rfl) (by decide) ?_
            refine x_lv [1, 2, 3, 0] rfl ?_
            exact ih (c) (s) (by omega) (by omega) (l3 + 6) M123
          · refine x_iconst C (v := 0) (k_dg dt_L_law_10 36 724 (.iconst 0) 1 rfl) (by decide) ?_
            exact x_zret C (by show c ≤ 600000; omega) (by show s ≤ 7302250; omega) rfl (k_dg dt_L_law_10 37 725 (.ireturn) 1 rfl)
        | 16, _ =>
          show Sm Z G emI _ _ 726 _ _ _ (rdX L xs (l3 + 1) (fun v124 => bd (f_X11_light v124 M) (fun r125 M126 => rdX L xs (l3 + 1) (fun v127 => bd (f_X12_light v127 M126) (fun r128 M129 => if r125 = r128 then f_law L xs n (l3 + 6) M129 else some (0, M129))))))
          refine x_aload_n C (k_dg dt_L_law_10 38 726 (.aload_n 1) 1 rfl) 1 rfl ?_
          refine x_aload_n C (k_dg dt_L_law_10 39 727 (.aload_n 0) 1 rfl) 0 rfl ?_
          refine x_iload_n C (k_dg dt_L_law_11 0 728 (.iload_n 3) 1 rfl) 3 rfl ?_
          refine x_iconst C (v := 1) (k_dg dt_L_law_11 1 729 (.iconst 1) 1 rfl) (by decide) ?_
          refine x_iadd C (k_dg dt_L_law_11 2 730 (.iadd) 1 rfl) ?_
          refine x_xld C hX (k_dg dt_L_law_11 3 731 (.iaload) 1 rfl) (fun v124 => ?_)
          refine x_callV C (a := 0) (kd := 9) (vs := [Value.int v124]) (rest := []) rfl rfl (by decide) (fun r hr => by cases hr; rfl) (c_X11_light C.2.2.2.2.2.2.2.2.2 G.2.1 v124 M) cy_X11_light lk_RL_86 im_X11_light se_X11_light (by decide) (by decide) (by show c + 0 ≤ 600000; omega) (by show s + 0 ≤ 7302250; omega) rfl rfl (Nat.le_of_ble_eq_true rfl) (k_dg dt_L_law_11 4 732 (.invokevirtual 86) 3 rfl) (fun r125 M126 => ?_)
          show Sm Z G _ _ (c, s) _ [(0, Value.ref b), (1, k_ra Z 0), (2, k_ra Z 76), (3, Value.int l3)] [Value.int r125] _ _
          refine x_aload_n C (k_dg dt_L_law_11 5 735 (.aload_n 2) 1 rfl) 2 rfl ?_
          refine x_aload_n C (k_dg dt_L_law_11 6 736 (.aload_n 0) 1 rfl) 0 rfl ?_
          refine x_iload_n C (k_dg dt_L_law_11 7 737 (.iload_n 3) 1 rfl) 3 rfl ?_
          refine x_iconst C (v := 1) (k_dg dt_L_law_11 8 738 (.iconst 1) 1 rfl) (by decide) ?_
          refine x_iadd C (k_dg dt_L_law_11 9 739 (.iadd) 1 rfl) ?_
          refine x_xld C hX (k_dg dt_L_law_11 10 740 (.iaload) 1 rfl) (fun v127 => ?_)
          refine x_callV C (a := 76) (kd := 10) (vs := [Value.int v127]) (rest := [Value.int r125]) rfl rfl (by decide) (fun r hr => by cases hr; rfl) (c_X12_light C.2.2.2.2.2.2.2.2.2 G.2.1 v127 M126) cy_X12_light lk_RL_89 im_X12_light se_X12_light (by decide) (by decide) (by show c + 0 ≤ 600000; omega) (by show s + 0 ≤ 7302250; omega) rfl rfl (Nat.le_of_ble_eq_true rfl) (k_dg dt_L_law_11 11 741 (.invokevirtual 89) 3 rfl) (fun r128 M129 => ?_)
          show Sm Z G _ _ (c, s) _ [(0, Value.ref b), (1, k_ra Z 0), (2, k_ra Z 76), (3, Value.int l3)] [Value.int r128, Value.int r125] _ _
          refine x_icmp_eq C (tgt := 1448) (k_dg dt_L_law_11 12 744 (.if_icmp .eq 704) 3 rfl) (by decide) (fun _ => ?_) (fun _ => ?_)
          · refine x_iinc C (v := 6) (lv' := [(3, Value.int (l3 + 6)), (0, Value.ref b), (1, k_ra Z 0), (2, k_ra Z 76)]) (k_dg dt_L_law_25 16 1448 (.iinc 3 6) 3 rfl) 3 rfl (by decide) (by decide) rfl ?_
            refine x_goto C (tgt := 18) (k_dg dt_L_law_25 17 1451 (.goto (-1433)) 3 rfl) (by decide) ?_
            refine x_lv [1, 2, 3, 0] rfl ?_
            exact ih (c) (s) (by omega) (by omega) (l3 + 6) M129
          · refine x_iconst C (v := 0) (k_dg dt_L_law_11 13 747 (.iconst 0) 1 rfl) (by decide) ?_
            exact x_zret C (by show c ≤ 600000; omega) (by show s ≤ 7302250; omega) rfl (k_dg dt_L_law_11 14 748 (.ireturn) 1 rfl)
        | 17, _ =>
          show Sm Z G emI _ _ 749 _ _ _ (rdX L xs (l3 + 1) (fun v130 => rdX L xs (l3 + 2) (fun v131 => bd (f_X11_far v130 v131 M) (fun r132 M133 => rdX L xs (l3 + 1) (fun v134 => rdX L xs (l3 + 2) (fun v135 => bd (f_X12_far v134 v135 M133) (fun r136 M137 => if r132 = r136 then f_law L xs n (l3 + 6) M137 else some (0, M137))))))))
          refine x_aload_n C (k_dg dt_L_law_11 15 749 (.aload_n 1) 1 rfl) 1 rfl ?_
          refine x_aload_n C (k_dg dt_L_law_11 16 750 (.aload_n 0) 1 rfl) 0 rfl ?_
          refine x_iload_n C (k_dg dt_L_law_11 17 751 (.iload_n 3) 1 rfl) 3 rfl ?_
          refine x_iconst C (v := 1) (k_dg dt_L_law_11 18 752 (.iconst 1) 1 rfl) (by decide) ?_
          refine x_iadd C (k_dg dt_L_law_11 19 753 (.iadd) 1 rfl) ?_
          refine x_xld C hX (k_dg dt_L_law_11 20 754 (.iaload) 1 rfl) (fun v130 => ?_)
          refine x_aload_n C (k_dg dt_L_law_11 21 755 (.aload_n 0) 1 rfl) 0 rfl ?_
          refine x_iload_n C (k_dg dt_L_law_11 22 756 (.iload_n 3) 1 rfl) 3 rfl ?_
          refine x_iconst C (v := 2) (k_dg dt_L_law_11 23 757 (.iconst 2) 1 rfl) (by decide) ?_
          refine x_iadd C (k_dg dt_L_law_11 24 758 (.iadd) 1 rfl) ?_
          refine x_xld C hX (k_dg dt_L_law_11 25 759 (.iaload) 1 rfl) (fun v131 => ?_)
          refine x_callV C (a := 0) (kd := 9) (vs := [Value.int v130, Value.int v131]) (rest := []) rfl rfl (by decide) (fun r hr => by cases hr; rfl) (c_X11_far C.2.2.2.2.2.2.2.2.2 G.2.1 v130 v131 M) cy_X11_far lk_RL_90 im_X11_far se_X11_far (by decide) (by decide) (by show c + 0 ≤ 600000; omega) (by show s + 0 ≤ 7302250; omega) rfl rfl (Nat.le_of_ble_eq_true rfl) (k_dg dt_L_law_11 26 760 (.invokevirtual 90) 3 rfl) (fun r132 M133 => ?_)
          show Sm Z G _ _ (c, s) _ [(0, Value.ref b), (1, k_ra Z 0), (2, k_ra Z 76), (3, Value.int l3)] [Value.int r132] _ _
          refine x_aload_n C (k_dg dt_L_law_11 27 763 (.aload_n 2) 1 rfl) 2 rfl ?_
          refine x_aload_n C (k_dg dt_L_law_11 28 764 (.aload_n 0) 1 rfl) 0 rfl ?_
          refine x_iload_n C (k_dg dt_L_law_11 29 765 (.iload_n 3) 1 rfl) 3 rfl ?_
          refine x_iconst C (v := 1) (k_dg dt_L_law_11 30 766 (.iconst 1) 1 rfl) (by decide) ?_
          refine x_iadd C (k_dg dt_L_law_11 31 767 (.iadd) 1 rfl) ?_
          refine x_xld C hX (k_dg dt_L_law_11 32 768 (.iaload) 1 rfl) (fun v134 => ?_)
          refine x_aload_n C (k_dg dt_L_law_11 33 769 (.aload_n 0) 1 rfl) 0 rfl ?_
          refine x_iload_n C (k_dg dt_L_law_11 34 770 (.iload_n 3) 1 rfl) 3 rfl ?_
          refine x_iconst C (v := 2) (k_dg dt_L_law_11 35 771 (.iconst 2) 1 rfl) (by decide) ?_
          refine x_iadd C (k_dg dt_L_law_11 36 772 (.iadd) 1 rfl) ?_
          refine x_xld C hX (k_dg dt_L_law_11 37 773 (.iaload) 1 rfl) (fun v135 => ?_)
          refine x_callV C (a := 76) (kd := 10) (vs := [Value.int v134, Value.int v135]) (rest := [Value.int r132]) rfl rfl (by decide) (fun r hr => by cases hr; rfl) (c_X12_far C.2.2.2.2.2.2.2.2.2 G.2.1 v134 v135 M133) cy_X12_far lk_RL_93 im_X12_far se_X12_far (by decide) (by decide) (by show c + 0 ≤ 600000; omega) (by show s + 0 ≤ 7302250; omega) rfl rfl (Nat.le_of_ble_eq_true rfl) (k_dg dt_L_law_11 38 774 (.invokevirtual 93) 3 rfl) (fun r136 M137 => ?_)
          show Sm Z G _ _ (c, s) _ [(0, Value.ref b), (1, k_ra Z 0), (2, k_ra Z 76), (3, Value.int l3)] [Value.int r136, Value.int r132] _ _
          refine x_icmp_eq C (tgt := 1448) (k_dg dt_L_law_11 39 777 (.if_icmp .eq 671) 3 rfl) (by decide) (fun _ => ?_) (fun _ => ?_)
          · refine x_iinc C (v := 6) (lv' := [(3, Value.int (l3 + 6)), (0, Value.ref b), (1, k_ra Z 0), (2, k_ra Z 76)]) (k_dg dt_L_law_25 16 1448 (.iinc 3 6) 3 rfl) 3 rfl (by decide) (by decide) rfl ?_
            refine x_goto C (tgt := 18) (k_dg dt_L_law_25 17 1451 (.goto (-1433)) 3 rfl) (by decide) ?_
            refine x_lv [1, 2, 3, 0] rfl ?_
            exact ih (c) (s) (by omega) (by omega) (l3 + 6) M137
          · refine x_iconst C (v := 0) (k_dg dt_L_law_12 0 780 (.iconst 0) 1 rfl) (by decide) ?_
            exact x_zret C (by show c ≤ 600000; omega) (by show s ≤ 7302250; omega) rfl (k_dg dt_L_law_12 1 781 (.ireturn) 1 rfl)
        | 18, _ =>
          show Sm Z G emI _ _ 782 _ _ _ (rdX L xs (l3 + 1) (fun v138 => bd (f_X11_meet v138 M) (fun r139 M140 => rdX L xs (l3 + 1) (fun v141 => bd (f_X12_meet v141 M140) (fun r142 M143 => if r139 = r142 then f_law L xs n (l3 + 6) M143 else some (0, M143))))))
          refine x_aload_n C (k_dg dt_L_law_12 2 782 (.aload_n 1) 1 rfl) 1 rfl ?_
          refine x_aload_n C (k_dg dt_L_law_12 3 783 (.aload_n 0) 1 rfl) 0 rfl ?_
          refine x_iload_n C (k_dg dt_L_law_12 4 784 (.iload_n 3) 1 rfl) 3 rfl ?_
          refine x_iconst C (v := 1) (k_dg dt_L_law_12 5 785 (.iconst 1) 1 rfl) (by decide) ?_
          refine x_iadd C (k_dg dt_L_law_12 6 786 (.iadd) 1 rfl) ?_
          refine x_xld C hX (k_dg dt_L_law_12 7 787 (.iaload) 1 rfl) (fun v138 => ?_)
          refine x_callV C (a := 0) (kd := 9) (vs := [Value.int v138]) (rest := []) rfl rfl (by decide) (fun r hr => by cases hr; rfl) (c_X11_meet C.2.2.2.2.2.2.2.2.2 G.2.1 v138 M) cy_X11_meet lk_RL_94 im_X11_meet se_X11_meet (by decide) (by decide) (by show c + 0 ≤ 600000; omega) (by show s + 0 ≤ 7302250; omega) rfl rfl (Nat.le_of_ble_eq_true rfl) (k_dg dt_L_law_12 8 788 (.invokevirtual 94) 3 rfl) (fun r139 M140 => ?_)
          show Sm Z G _ _ (c, s) _ [(0, Value.ref b), (1, k_ra Z 0), (2, k_ra Z 76), (3, Value.int l3)] [Value.int r139] _ _
          refine x_aload_n C (k_dg dt_L_law_12 9 791 (.aload_n 2) 1 rfl) 2 rfl ?_
          refine x_aload_n C (k_dg dt_L_law_12 10 792 (.aload_n 0) 1 rfl) 0 rfl ?_
          refine x_iload_n C (k_dg dt_L_law_12 11 793 (.iload_n 3) 1 rfl) 3 rfl ?_
          refine x_iconst C (v := 1) (k_dg dt_L_law_12 12 794 (.iconst 1) 1 rfl) (by decide) ?_
          refine x_iadd C (k_dg dt_L_law_12 13 795 (.iadd) 1 rfl) ?_
          refine x_xld C hX (k_dg dt_L_law_12 14 796 (.iaload) 1 rfl) (fun v141 => ?_)
          refine x_callV C (a := 76) (kd := 10) (vs := [Value.int v141]) (rest := [Value.int r139]) rfl rfl (by decide) (fun r hr => by cases hr; rfl) (c_X12_meet C.2.2.2.2.2.2.2.2.2 G.2.1 v141 M140) cy_X12_meet lk_RL_97 im_X12_meet se_X12_meet (by decide) (by decide) (by show c + 0 ≤ 600000; omega) (by show s + 0 ≤ 7302250; omega) rfl rfl (Nat.le_of_ble_eq_true rfl) (k_dg dt_L_law_12 15 797 (.invokevirtual 97) 3 rfl) (fun r142 M143 => ?_)
          show Sm Z G _ _ (c, s) _ [(0, Value.ref b), (1, k_ra Z 0), (2, k_ra Z 76), (3, Value.int l3)] [Value.int r142, Value.int r139] _ _
          refine x_icmp_eq C (tgt := 1448) (k_dg dt_L_law_12 16 800 (.if_icmp .eq 648) 3 rfl) (by decide) (fun _ => ?_) (fun _ => ?_)
          · refine x_iinc C (v := 6) (lv' := [(3, Value.int (l3 + 6)), (0, Value.ref b), (1, k_ra Z 0), (2, k_ra Z 76)]) (k_dg dt_L_law_25 16 1448 (.iinc 3 6) 3 rfl) 3 rfl (by decide) (by decide) rfl ?_
            refine x_goto C (tgt := 18) (k_dg dt_L_law_25 17 1451 (.goto (-1433)) 3 rfl) (by decide) ?_
            refine x_lv [1, 2, 3, 0] rfl ?_
            exact ih (c) (s) (by omega) (by omega) (l3 + 6) M143
          · refine x_iconst C (v := 0) (k_dg dt_L_law_12 17 803 (.iconst 0) 1 rfl) (by decide) ?_
            exact x_zret C (by show c ≤ 600000; omega) (by show s ≤ 7302250; omega) rfl (k_dg dt_L_law_12 18 804 (.ireturn) 1 rfl)
        | 19, _ =>
          show Sm Z G emI _ _ 805 _ _ _ (rdX L xs (l3 + 1) (fun v144 => bd (f_X11_party v144 M) (fun r145 M146 => rdX L xs (l3 + 1) (fun v147 => bd (f_X12_party v147 M146) (fun r148 M149 => if r145 = r148 then f_law L xs n (l3 + 6) M149 else some (0, M149))))))
          refine x_aload_n C (k_dg dt_L_law_12 19 805 (.aload_n 1) 1 rfl) 1 rfl ?_
          refine x_aload_n C (k_dg dt_L_law_12 20 806 (.aload_n 0) 1 rfl) 0 rfl ?_
          refine x_iload_n C (k_dg dt_L_law_12 21 807 (.iload_n 3) 1 rfl) 3 rfl ?_
          refine x_iconst C (v := 1) (k_dg dt_L_law_12 22 808 (.iconst 1) 1 rfl) (by decide) ?_
          refine x_iadd C (k_dg dt_L_law_12 23 809 (.iadd) 1 rfl) ?_
          refine x_xld C hX (k_dg dt_L_law_12 24 810 (.iaload) 1 rfl) (fun v144 => ?_)
          refine x_callV C (a := 0) (kd := 9) (vs := [Value.int v144]) (rest := []) rfl rfl (by decide) (fun r hr => by cases hr; rfl) (c_X11_party C.2.2.2.2.2.2.2.2.2 G.2.1 v144 M) cy_X11_party lk_RL_98 im_X11_party se_X11_party (by decide) (by decide) (by show c + 0 ≤ 600000; omega) (by show s + 0 ≤ 7302250; omega) rfl rfl (Nat.le_of_ble_eq_true rfl) (k_dg dt_L_law_12 25 811 (.invokevirtual 98) 3 rfl) (fun r145 M146 => ?_)
          show Sm Z G _ _ (c, s) _ [(0, Value.ref b), (1, k_ra Z 0), (2, k_ra Z 76), (3, Value.int l3)] [Value.int r145] _ _
          refine x_aload_n C (k_dg dt_L_law_12 26 814 (.aload_n 2) 1 rfl) 2 rfl ?_
          refine x_aload_n C (k_dg dt_L_law_12 27 815 (.aload_n 0) 1 rfl) 0 rfl ?_
          refine x_iload_n C (k_dg dt_L_law_12 28 816 (.iload_n 3) 1 rfl) 3 rfl ?_
          refine x_iconst C (v := 1) (k_dg dt_L_law_12 29 817 (.iconst 1) 1 rfl) (by decide) ?_
          refine x_iadd C (k_dg dt_L_law_12 30 818 (.iadd) 1 rfl) ?_
          refine x_xld C hX (k_dg dt_L_law_12 31 819 (.iaload) 1 rfl) (fun v147 => ?_)
          refine x_callV C (a := 76) (kd := 10) (vs := [Value.int v147]) (rest := [Value.int r145]) rfl rfl (by decide) (fun r hr => by cases hr; rfl) (c_X12_party C.2.2.2.2.2.2.2.2.2 G.2.1 v147 M146) cy_X12_party lk_RL_101 im_X12_party se_X12_party (by decide) (by decide) (by show c + 0 ≤ 600000; omega) (by show s + 0 ≤ 7302250; omega) rfl rfl (Nat.le_of_ble_eq_true rfl) (k_dg dt_L_law_12 32 820 (.invokevirtual 101) 3 rfl) (fun r148 M149 => ?_)
          show Sm Z G _ _ (c, s) _ [(0, Value.ref b), (1, k_ra Z 0), (2, k_ra Z 76), (3, Value.int l3)] [Value.int r148, Value.int r145] _ _
          refine x_icmp_eq C (tgt := 1448) (k_dg dt_L_law_12 33 823 (.if_icmp .eq 625) 3 rfl) (by decide) (fun _ => ?_) (fun _ => ?_)
          · refine x_iinc C (v := 6) (lv' := [(3, Value.int (l3 + 6)), (0, Value.ref b), (1, k_ra Z 0), (2, k_ra Z 76)]) (k_dg dt_L_law_25 16 1448 (.iinc 3 6) 3 rfl) 3 rfl (by decide) (by decide) rfl ?_
            refine x_goto C (tgt := 18) (k_dg dt_L_law_25 17 1451 (.goto (-1433)) 3 rfl) (by decide) ?_
            refine x_lv [1, 2, 3, 0] rfl ?_
            exact ih (c) (s) (by omega) (by omega) (l3 + 6) M149
          · refine x_iconst C (v := 0) (k_dg dt_L_law_12 34 826 (.iconst 0) 1 rfl) (by decide) ?_
            exact x_zret C (by show c ≤ 600000; omega) (by show s ≤ 7302250; omega) rfl (k_dg dt_L_law_12 35 827 (.ireturn) 1 rfl)
        | 20, _ =>
          show Sm Z G emI _ _ 828 _ _ _ (rdX L xs (l3 + 1) (fun v150 => rdX L xs (l3 + 2) (fun v151 => bd (f_X11_gate v150 v151 M) (fun r152 M153 => rdX L xs (l3 + 1) (fun v154 => rdX L xs (l3 + 2) (fun v155 => bd (f_X12_gate v154 v155 M153) (fun r156 M157 => if r152 = r156 then f_law L xs n (l3 + 6) M157 else some (0, M157))))))))
          refine x_aload_n C (k_dg dt_L_law_12 36 828 (.aload_n 1) 1 rfl) 1 rfl ?_
          refine x_aload_n C (k_dg dt_L_law_12 37 829 (.aload_n 0) 1 rfl) 0 rfl ?_
          refine x_iload_n C (k_dg dt_L_law_12 38 830 (.iload_n 3) 1 rfl) 3 rfl ?_
          refine x_iconst C (v := 1) (k_dg dt_L_law_12 39 831 (.iconst 1) 1 rfl) (by decide) ?_
          refine x_iadd C (k_dg dt_L_law_13 0 832 (.iadd) 1 rfl) ?_
          refine x_xld C hX (k_dg dt_L_law_13 1 833 (.iaload) 1 rfl) (fun v150 => ?_)
          refine x_aload_n C (k_dg dt_L_law_13 2 834 (.aload_n 0) 1 rfl) 0 rfl ?_
          refine x_iload_n C (k_dg dt_L_law_13 3 835 (.iload_n 3) 1 rfl) 3 rfl ?_
          refine x_iconst C (v := 2) (k_dg dt_L_law_13 4 836 (.iconst 2) 1 rfl) (by decide) ?_
          refine x_iadd C (k_dg dt_L_law_13 5 837 (.iadd) 1 rfl) ?_
          refine x_xld C hX (k_dg dt_L_law_13 6 838 (.iaload) 1 rfl) (fun v151 => ?_)
          refine x_callV C (a := 0) (kd := 9) (vs := [Value.int v150, Value.int v151]) (rest := []) rfl rfl (by decide) (fun r hr => by cases hr; rfl) (c_X11_gate C.2.2.2.2.2.2.2.2.2 G.2.1 v150 v151 M) cy_X11_gate lk_RL_102 im_X11_gate se_X11_gate (by decide) (by decide) (by show c + 0 ≤ 600000; omega) (by show s + 0 ≤ 7302250; omega) rfl rfl (Nat.le_of_ble_eq_true rfl) (k_dg dt_L_law_13 7 839 (.invokevirtual 102) 3 rfl) (fun r152 M153 => ?_)
          show Sm Z G _ _ (c, s) _ [(0, Value.ref b), (1, k_ra Z 0), (2, k_ra Z 76), (3, Value.int l3)] [Value.int r152] _ _
          refine x_aload_n C (k_dg dt_L_law_13 8 842 (.aload_n 2) 1 rfl) 2 rfl ?_
          refine x_aload_n C (k_dg dt_L_law_13 9 843 (.aload_n 0) 1 rfl) 0 rfl ?_
          refine x_iload_n C (k_dg dt_L_law_13 10 844 (.iload_n 3) 1 rfl) 3 rfl ?_
          refine x_iconst C (v := 1) (k_dg dt_L_law_13 11 845 (.iconst 1) 1 rfl) (by decide) ?_
          refine x_iadd C (k_dg dt_L_law_13 12 846 (.iadd) 1 rfl) ?_
          refine x_xld C hX (k_dg dt_L_law_13 13 847 (.iaload) 1 rfl) (fun v154 => ?_)
          refine x_aload_n C (k_dg dt_L_law_13 14 848 (.aload_n 0) 1 rfl) 0 rfl ?_
          refine x_iload_n C (k_dg dt_L_law_13 15 849 (.iload_n 3) 1 rfl) 3 rfl ?_
          refine x_iconst C (v := 2) (k_dg dt_L_law_13 16 850 (.iconst 2) 1 rfl) (by decide) ?_
          refine x_iadd C (k_dg dt_L_law_13 17 851 (.iadd) 1 rfl) ?_
          refine x_xld C hX (k_dg dt_L_law_13 18 852 (.iaload) 1 rfl) (fun v155 => ?_)
          refine x_callV C (a := 76) (kd := 10) (vs := [Value.int v154, Value.int v155]) (rest := [Value.int r152]) rfl rfl (by decide) (fun r hr => by cases hr; rfl) (c_X12_gate C.2.2.2.2.2.2.2.2.2 G.2.1 v154 v155 M153) cy_X12_gate lk_RL_105 im_X12_gate se_X12_gate (by decide) (by decide) (by show c + 0 ≤ 600000; omega) (by show s + 0 ≤ 7302250; omega) rfl rfl (Nat.le_of_ble_eq_true rfl) (k_dg dt_L_law_13 19 853 (.invokevirtual 105) 3 rfl) (fun r156 M157 => ?_)
          show Sm Z G _ _ (c, s) _ [(0, Value.ref b), (1, k_ra Z 0), (2, k_ra Z 76), (3, Value.int l3)] [Value.int r156, Value.int r152] _ _
          refine x_icmp_eq C (tgt := 1448) (k_dg dt_L_law_13 20 856 (.if_icmp .eq 592) 3 rfl) (by decide) (fun _ => ?_) (fun _ => ?_)
          · refine x_iinc C (v := 6) (lv' := [(3, Value.int (l3 + 6)), (0, Value.ref b), (1, k_ra Z 0), (2, k_ra Z 76)]) (k_dg dt_L_law_25 16 1448 (.iinc 3 6) 3 rfl) 3 rfl (by decide) (by decide) rfl ?_
            refine x_goto C (tgt := 18) (k_dg dt_L_law_25 17 1451 (.goto (-1433)) 3 rfl) (by decide) ?_
            refine x_lv [1, 2, 3, 0] rfl ?_
            exact ih (c) (s) (by omega) (by omega) (l3 + 6) M157
          · refine x_iconst C (v := 0) (k_dg dt_L_law_13 21 859 (.iconst 0) 1 rfl) (by decide) ?_
            exact x_zret C (by show c ≤ 600000; omega) (by show s ≤ 7302250; omega) rfl (k_dg dt_L_law_13 22 860 (.ireturn) 1 rfl)
        | 21, _ =>
          show Sm Z G emI _ _ 861 _ _ _ (rdX L xs (l3 + 1) (fun v158 => rdX L xs (l3 + 2) (fun v159 => bd (f_X11_round v158 v159 M) (fun r160 M161 => rdX L xs (l3 + 1) (fun v162 => rdX L xs (l3 + 2) (fun v163 => bd (f_X12_round v162 v163 M161) (fun r164 M165 => if r160 = r164 then f_law L xs n (l3 + 6) M165 else some (0, M165))))))))
          refine x_aload_n C (k_dg dt_L_law_13 23 861 (.aload_n 1) 1 rfl) 1 rfl ?_
          refine x_aload_n C (k_dg dt_L_law_13 24 862 (.aload_n 0) 1 rfl) 0 rfl ?_
          refine x_iload_n C (k_dg dt_L_law_13 25 863 (.iload_n 3) 1 rfl) 3 rfl ?_
          refine x_iconst C (v := 1) (k_dg dt_L_law_13 26 864 (.iconst 1) 1 rfl) (by decide) ?_
          refine x_iadd C (k_dg dt_L_law_13 27 865 (.iadd) 1 rfl) ?_
          refine x_xld C hX (k_dg dt_L_law_13 28 866 (.iaload) 1 rfl) (fun v158 => ?_)
          refine x_aload_n C (k_dg dt_L_law_13 29 867 (.aload_n 0) 1 rfl) 0 rfl ?_
          refine x_iload_n C (k_dg dt_L_law_13 30 868 (.iload_n 3) 1 rfl) 3 rfl ?_
          refine x_iconst C (v := 2) (k_dg dt_L_law_13 31 869 (.iconst 2) 1 rfl) (by decide) ?_
          refine x_iadd C (k_dg dt_L_law_13 32 870 (.iadd) 1 rfl) ?_
          refine x_xld C hX (k_dg dt_L_law_13 33 871 (.iaload) 1 rfl) (fun v159 => ?_)
          refine x_callV C (a := 0) (kd := 9) (vs := [Value.int v158, Value.int v159]) (rest := []) rfl rfl (by decide) (fun r hr => by cases hr; rfl) (c_X11_round C.2.2.2.2.2.2.2.2.2 G.2.1 v158 v159 M) cy_X11_round lk_RL_106 im_X11_round se_X11_round (by decide) (by decide) (by show c + 0 ≤ 600000; omega) (by show s + 0 ≤ 7302250; omega) rfl rfl (Nat.le_of_ble_eq_true rfl) (k_dg dt_L_law_13 34 872 (.invokevirtual 106) 3 rfl) (fun r160 M161 => ?_)
          show Sm Z G _ _ (c, s) _ [(0, Value.ref b), (1, k_ra Z 0), (2, k_ra Z 76), (3, Value.int l3)] [Value.int r160] _ _
          refine x_aload_n C (k_dg dt_L_law_13 35 875 (.aload_n 2) 1 rfl) 2 rfl ?_
          refine x_aload_n C (k_dg dt_L_law_13 36 876 (.aload_n 0) 1 rfl) 0 rfl ?_
          refine x_iload_n C (k_dg dt_L_law_13 37 877 (.iload_n 3) 1 rfl) 3 rfl ?_
          refine x_iconst C (v := 1) (k_dg dt_L_law_13 38 878 (.iconst 1) 1 rfl) (by decide) ?_
          refine x_iadd C (k_dg dt_L_law_13 39 879 (.iadd) 1 rfl) ?_
          refine x_xld C hX (k_dg dt_L_law_14 0 880 (.iaload) 1 rfl) (fun v162 => ?_)
          refine x_aload_n C (k_dg dt_L_law_14 1 881 (.aload_n 0) 1 rfl) 0 rfl ?_
          refine x_iload_n C (k_dg dt_L_law_14 2 882 (.iload_n 3) 1 rfl) 3 rfl ?_
          refine x_iconst C (v := 2) (k_dg dt_L_law_14 3 883 (.iconst 2) 1 rfl) (by decide) ?_
          refine x_iadd C (k_dg dt_L_law_14 4 884 (.iadd) 1 rfl) ?_
          refine x_xld C hX (k_dg dt_L_law_14 5 885 (.iaload) 1 rfl) (fun v163 => ?_)
          refine x_callV C (a := 76) (kd := 10) (vs := [Value.int v162, Value.int v163]) (rest := [Value.int r160]) rfl rfl (by decide) (fun r hr => by cases hr; rfl) (c_X12_round C.2.2.2.2.2.2.2.2.2 G.2.1 v162 v163 M161) cy_X12_round lk_RL_109 im_X12_round se_X12_round (by decide) (by decide) (by show c + 0 ≤ 600000; omega) (by show s + 0 ≤ 7302250; omega) rfl rfl (Nat.le_of_ble_eq_true rfl) (k_dg dt_L_law_14 6 886 (.invokevirtual 109) 3 rfl) (fun r164 M165 => ?_)
          show Sm Z G _ _ (c, s) _ [(0, Value.ref b), (1, k_ra Z 0), (2, k_ra Z 76), (3, Value.int l3)] [Value.int r164, Value.int r160] _ _
          refine x_icmp_eq C (tgt := 1448) (k_dg dt_L_law_14 7 889 (.if_icmp .eq 559) 3 rfl) (by decide) (fun _ => ?_) (fun _ => ?_)
          · refine x_iinc C (v := 6) (lv' := [(3, Value.int (l3 + 6)), (0, Value.ref b), (1, k_ra Z 0), (2, k_ra Z 76)]) (k_dg dt_L_law_25 16 1448 (.iinc 3 6) 3 rfl) 3 rfl (by decide) (by decide) rfl ?_
            refine x_goto C (tgt := 18) (k_dg dt_L_law_25 17 1451 (.goto (-1433)) 3 rfl) (by decide) ?_
            refine x_lv [1, 2, 3, 0] rfl ?_
            exact ih (c) (s) (by omega) (by omega) (l3 + 6) M165
          · refine x_iconst C (v := 0) (k_dg dt_L_law_14 8 892 (.iconst 0) 1 rfl) (by decide) ?_
            exact x_zret C (by show c ≤ 600000; omega) (by show s ≤ 7302250; omega) rfl (k_dg dt_L_law_14 9 893 (.ireturn) 1 rfl)
        | 22, _ =>
          show Sm Z G emI _ _ 894 _ _ _ (rdX L xs (l3 + 1) (fun v166 => rdX L xs (l3 + 2) (fun v167 => bd (f_X11_rule v166 v167 M) (fun r168 M169 => rdX L xs (l3 + 1) (fun v170 => rdX L xs (l3 + 2) (fun v171 => bd (f_X12_rule v170 v171 M169) (fun r172 M173 => if r168 = r172 then f_law L xs n (l3 + 6) M173 else some (0, M173))))))))
          refine x_aload_n C (k_dg dt_L_law_14 10 894 (.aload_n 1) 1 rfl) 1 rfl ?_
          refine x_aload_n C (k_dg dt_L_law_14 11 895 (.aload_n 0) 1 rfl) 0 rfl ?_
          refine x_iload_n C (k_dg dt_L_law_14 12 896 (.iload_n 3) 1 rfl) 3 rfl ?_
          refine x_iconst C (v := 1) (k_dg dt_L_law_14 13 897 (.iconst 1) 1 rfl) (by decide) ?_
          refine x_iadd C (k_dg dt_L_law_14 14 898 (.iadd) 1 rfl) ?_
          refine x_xld C hX (k_dg dt_L_law_14 15 899 (.iaload) 1 rfl) (fun v166 => ?_)
          refine x_aload_n C (k_dg dt_L_law_14 16 900 (.aload_n 0) 1 rfl) 0 rfl ?_
          refine x_iload_n C (k_dg dt_L_law_14 17 901 (.iload_n 3) 1 rfl) 3 rfl ?_
          refine x_iconst C (v := 2) (k_dg dt_L_law_14 18 902 (.iconst 2) 1 rfl) (by decide) ?_
          refine x_iadd C (k_dg dt_L_law_14 19 903 (.iadd) 1 rfl) ?_
          refine x_xld C hX (k_dg dt_L_law_14 20 904 (.iaload) 1 rfl) (fun v167 => ?_)
          refine x_callV C (a := 0) (kd := 9) (vs := [Value.int v166, Value.int v167]) (rest := []) rfl rfl (by decide) (fun r hr => by cases hr; rfl) (c_X11_rule C.2.2.2.2.2.2.2.2.2 G.2.1 v166 v167 M) cy_X11_rule lk_RL_110 im_X11_rule se_X11_rule (by decide) (by decide) (by show c + 1 ≤ 600000; omega) (by show s + 3 ≤ 7302250; omega) rfl rfl (Nat.le_of_ble_eq_true rfl) (k_dg dt_L_law_14 21 905 (.invokevirtual 110) 3 rfl) (fun r168 M169 => ?_)
          show Sm Z G _ _ (c + 1, s + 3) _ [(0, Value.ref b), (1, k_ra Z 0), (2, k_ra Z 76), (3, Value.int l3)] [Value.int r168] _ _
          refine x_aload_n C (k_dg dt_L_law_14 22 908 (.aload_n 2) 1 rfl) 2 rfl ?_
          refine x_aload_n C (k_dg dt_L_law_14 23 909 (.aload_n 0) 1 rfl) 0 rfl ?_
          refine x_iload_n C (k_dg dt_L_law_14 24 910 (.iload_n 3) 1 rfl) 3 rfl ?_
          refine x_iconst C (v := 1) (k_dg dt_L_law_14 25 911 (.iconst 1) 1 rfl) (by decide) ?_
          refine x_iadd C (k_dg dt_L_law_14 26 912 (.iadd) 1 rfl) ?_
          refine x_xld C hX (k_dg dt_L_law_14 27 913 (.iaload) 1 rfl) (fun v170 => ?_)
          refine x_aload_n C (k_dg dt_L_law_14 28 914 (.aload_n 0) 1 rfl) 0 rfl ?_
          refine x_iload_n C (k_dg dt_L_law_14 29 915 (.iload_n 3) 1 rfl) 3 rfl ?_
          refine x_iconst C (v := 2) (k_dg dt_L_law_14 30 916 (.iconst 2) 1 rfl) (by decide) ?_
          refine x_iadd C (k_dg dt_L_law_14 31 917 (.iadd) 1 rfl) ?_
          refine x_xld C hX (k_dg dt_L_law_14 32 918 (.iaload) 1 rfl) (fun v171 => ?_)
          refine x_callV C (a := 76) (kd := 10) (vs := [Value.int v170, Value.int v171]) (rest := [Value.int r168]) rfl rfl (by decide) (fun r hr => by cases hr; rfl) (c_X12_rule C.2.2.2.2.2.2.2.2.2 G.2.1 v170 v171 M169) cy_X12_rule lk_RL_113 im_X12_rule se_X12_rule (by decide) (by decide) (by show c + 1 + 0 ≤ 600000; omega) (by show s + 3 + 0 ≤ 7302250; omega) rfl rfl (Nat.le_of_ble_eq_true rfl) (k_dg dt_L_law_14 33 919 (.invokevirtual 113) 3 rfl) (fun r172 M173 => ?_)
          show Sm Z G _ _ (c + 1, s + 3) _ [(0, Value.ref b), (1, k_ra Z 0), (2, k_ra Z 76), (3, Value.int l3)] [Value.int r172, Value.int r168] _ _
          refine x_icmp_eq C (tgt := 1448) (k_dg dt_L_law_14 34 922 (.if_icmp .eq 526) 3 rfl) (by decide) (fun _ => ?_) (fun _ => ?_)
          · refine x_iinc C (v := 6) (lv' := [(3, Value.int (l3 + 6)), (0, Value.ref b), (1, k_ra Z 0), (2, k_ra Z 76)]) (k_dg dt_L_law_25 16 1448 (.iinc 3 6) 3 rfl) 3 rfl (by decide) (by decide) rfl ?_
            refine x_goto C (tgt := 18) (k_dg dt_L_law_25 17 1451 (.goto (-1433)) 3 rfl) (by decide) ?_
            refine x_lv [1, 2, 3, 0] rfl ?_
            exact ih (c + 1) (s + 3) (by omega) (by omega) (l3 + 6) M173
          · refine x_iconst C (v := 0) (k_dg dt_L_law_14 35 925 (.iconst 0) 1 rfl) (by decide) ?_
            exact x_zret C (by show c + 1 ≤ 600000; omega) (by show s + 3 ≤ 7302250; omega) rfl (k_dg dt_L_law_14 36 926 (.ireturn) 1 rfl)
        | 23, _ =>
          show Sm Z G emI _ _ 927 _ _ _ (rdX L xs (l3 + 1) (fun v174 => rdX L xs (l3 + 2) (fun v175 => bd (f_X11_ruleOf v174 v175 M) (fun r176 M177 => rdX L xs (l3 + 1) (fun v178 => rdX L xs (l3 + 2) (fun v179 => bd (f_X12_ruleOf v178 v179 M177) (fun r180 M181 => if r176 = r180 then f_law L xs n (l3 + 6) M181 else some (0, M181))))))))
          refine x_aload_n C (k_dg dt_L_law_14 37 927 (.aload_n 1) 1 rfl) 1 rfl ?_
          refine x_aload_n C (k_dg dt_L_law_14 38 928 (.aload_n 0) 1 rfl) 0 rfl ?_
          refine x_iload_n C (k_dg dt_L_law_14 39 929 (.iload_n 3) 1 rfl) 3 rfl ?_
          refine x_iconst C (v := 1) (k_dg dt_L_law_15 0 930 (.iconst 1) 1 rfl) (by decide) ?_
          refine x_iadd C (k_dg dt_L_law_15 1 931 (.iadd) 1 rfl) ?_
          refine x_xld C hX (k_dg dt_L_law_15 2 932 (.iaload) 1 rfl) (fun v174 => ?_)
          refine x_aload_n C (k_dg dt_L_law_15 3 933 (.aload_n 0) 1 rfl) 0 rfl ?_
          refine x_iload_n C (k_dg dt_L_law_15 4 934 (.iload_n 3) 1 rfl) 3 rfl ?_
          refine x_iconst C (v := 2) (k_dg dt_L_law_15 5 935 (.iconst 2) 1 rfl) (by decide) ?_
          refine x_iadd C (k_dg dt_L_law_15 6 936 (.iadd) 1 rfl) ?_
          refine x_xld C hX (k_dg dt_L_law_15 7 937 (.iaload) 1 rfl) (fun v175 => ?_)
          refine x_callV C (a := 0) (kd := 9) (vs := [Value.int v174, Value.int v175]) (rest := []) rfl rfl (by decide) (fun r hr => by cases hr; rfl) (c_X11_ruleOf C.2.2.2.2.2.2.2.2.2 G.2.1 v174 v175 M) cy_X11_ruleOf lk_RL_114 im_X11_ruleOf se_X11_ruleOf (by decide) (by decide) (by show c + 0 ≤ 600000; omega) (by show s + 0 ≤ 7302250; omega) rfl rfl (Nat.le_of_ble_eq_true rfl) (k_dg dt_L_law_15 8 938 (.invokevirtual 114) 3 rfl) (fun r176 M177 => ?_)
          show Sm Z G _ _ (c, s) _ [(0, Value.ref b), (1, k_ra Z 0), (2, k_ra Z 76), (3, Value.int l3)] [Value.int r176] _ _
          refine x_aload_n C (k_dg dt_L_law_15 9 941 (.aload_n 2) 1 rfl) 2 rfl ?_
          refine x_aload_n C (k_dg dt_L_law_15 10 942 (.aload_n 0) 1 rfl) 0 rfl ?_
          refine x_iload_n C (k_dg dt_L_law_15 11 943 (.iload_n 3) 1 rfl) 3 rfl ?_
          refine x_iconst C (v := 1) (k_dg dt_L_law_15 12 944 (.iconst 1) 1 rfl) (by decide) ?_
          refine x_iadd C (k_dg dt_L_law_15 13 945 (.iadd) 1 rfl) ?_
          refine x_xld C hX (k_dg dt_L_law_15 14 946 (.iaload) 1 rfl) (fun v178 => ?_)
          refine x_aload_n C (k_dg dt_L_law_15 15 947 (.aload_n 0) 1 rfl) 0 rfl ?_
          refine x_iload_n C (k_dg dt_L_law_15 16 948 (.iload_n 3) 1 rfl) 3 rfl ?_
          refine x_iconst C (v := 2) (k_dg dt_L_law_15 17 949 (.iconst 2) 1 rfl) (by decide) ?_
          refine x_iadd C (k_dg dt_L_law_15 18 950 (.iadd) 1 rfl) ?_
          refine x_xld C hX (k_dg dt_L_law_15 19 951 (.iaload) 1 rfl) (fun v179 => ?_)
          refine x_callV C (a := 76) (kd := 10) (vs := [Value.int v178, Value.int v179]) (rest := [Value.int r176]) rfl rfl (by decide) (fun r hr => by cases hr; rfl) (c_X12_ruleOf C.2.2.2.2.2.2.2.2.2 G.2.1 v178 v179 M177) cy_X12_ruleOf lk_RL_117 im_X12_ruleOf se_X12_ruleOf (by decide) (by decide) (by show c + 0 ≤ 600000; omega) (by show s + 0 ≤ 7302250; omega) rfl rfl (Nat.le_of_ble_eq_true rfl) (k_dg dt_L_law_15 20 952 (.invokevirtual 117) 3 rfl) (fun r180 M181 => ?_)
          show Sm Z G _ _ (c, s) _ [(0, Value.ref b), (1, k_ra Z 0), (2, k_ra Z 76), (3, Value.int l3)] [Value.int r180, Value.int r176] _ _
          refine x_icmp_eq C (tgt := 1448) (k_dg dt_L_law_15 21 955 (.if_icmp .eq 493) 3 rfl) (by decide) (fun _ => ?_) (fun _ => ?_)
          · refine x_iinc C (v := 6) (lv' := [(3, Value.int (l3 + 6)), (0, Value.ref b), (1, k_ra Z 0), (2, k_ra Z 76)]) (k_dg dt_L_law_25 16 1448 (.iinc 3 6) 3 rfl) 3 rfl (by decide) (by decide) rfl ?_
            refine x_goto C (tgt := 18) (k_dg dt_L_law_25 17 1451 (.goto (-1433)) 3 rfl) (by decide) ?_
            refine x_lv [1, 2, 3, 0] rfl ?_
            exact ih (c) (s) (by omega) (by omega) (l3 + 6) M181
          · refine x_iconst C (v := 0) (k_dg dt_L_law_15 22 958 (.iconst 0) 1 rfl) (by decide) ?_
            exact x_zret C (by show c ≤ 600000; omega) (by show s ≤ 7302250; omega) rfl (k_dg dt_L_law_15 23 959 (.ireturn) 1 rfl)
        | 24, _ =>
          show Sm Z G emI _ _ 960 _ _ _ (rdX L xs (l3 + 1) (fun v182 => bd (f_X11_next v182 M) (fun r183 M184 => rdX L xs (l3 + 1) (fun v185 => bd (f_X12_next v185 M184) (fun r186 M187 => if r183 = r186 then f_law L xs n (l3 + 6) M187 else some (0, M187))))))
          refine x_aload_n C (k_dg dt_L_law_15 24 960 (.aload_n 1) 1 rfl) 1 rfl ?_
          refine x_aload_n C (k_dg dt_L_law_15 25 961 (.aload_n 0) 1 rfl) 0 rfl ?_
          refine x_iload_n C (k_dg dt_L_law_15 26 962 (.iload_n 3) 1 rfl) 3 rfl ?_
          refine x_iconst C (v := 1) (k_dg dt_L_law_15 27 963 (.iconst 1) 1 rfl) (by decide) ?_
          refine x_iadd C (k_dg dt_L_law_15 28 964 (.iadd) 1 rfl) ?_
          refine x_xld C hX (k_dg dt_L_law_15 29 965 (.iaload) 1 rfl) (fun v182 => ?_)
          refine x_callV C (a := 0) (kd := 9) (vs := [Value.int v182]) (rest := []) rfl rfl (by decide) (fun r hr => by cases hr; rfl) (c_X11_next C.2.2.2.2.2.2.2.2.2 G.2.1 v182 M) cy_X11_next lk_RL_118 im_X11_next se_X11_next (by decide) (by decide) (by show c + 0 ≤ 600000; omega) (by show s + 0 ≤ 7302250; omega) rfl rfl (Nat.le_of_ble_eq_true rfl) (k_dg dt_L_law_15 30 966 (.invokevirtual 118) 3 rfl) (fun r183 M184 => ?_)
          show Sm Z G _ _ (c, s) _ [(0, Value.ref b), (1, k_ra Z 0), (2, k_ra Z 76), (3, Value.int l3)] [Value.int r183] _ _
          refine x_aload_n C (k_dg dt_L_law_15 31 969 (.aload_n 2) 1 rfl) 2 rfl ?_
          refine x_aload_n C (k_dg dt_L_law_15 32 970 (.aload_n 0) 1 rfl) 0 rfl ?_
          refine x_iload_n C (k_dg dt_L_law_15 33 971 (.iload_n 3) 1 rfl) 3 rfl ?_
          refine x_iconst C (v := 1) (k_dg dt_L_law_15 34 972 (.iconst 1) 1 rfl) (by decide) ?_
          refine x_iadd C (k_dg dt_L_law_15 35 973 (.iadd) 1 rfl) ?_
          refine x_xld C hX (k_dg dt_L_law_15 36 974 (.iaload) 1 rfl) (fun v185 => ?_)
          refine x_callV C (a := 76) (kd := 10) (vs := [Value.int v185]) (rest := [Value.int r183]) rfl rfl (by decide) (fun r hr => by cases hr; rfl) (c_X12_next C.2.2.2.2.2.2.2.2.2 G.2.1 v185 M184) cy_X12_next lk_RL_121 im_X12_next se_X12_next (by decide) (by decide) (by show c + 0 ≤ 600000; omega) (by show s + 0 ≤ 7302250; omega) rfl rfl (Nat.le_of_ble_eq_true rfl) (k_dg dt_L_law_15 37 975 (.invokevirtual 121) 3 rfl) (fun r186 M187 => ?_)
          show Sm Z G _ _ (c, s) _ [(0, Value.ref b), (1, k_ra Z 0), (2, k_ra Z 76), (3, Value.int l3)] [Value.int r186, Value.int r183] _ _
          refine x_icmp_eq C (tgt := 1448) (k_dg dt_L_law_15 38 978 (.if_icmp .eq 470) 3 rfl) (by decide) (fun _ => ?_) (fun _ => ?_)
          · refine x_iinc C (v := 6) (lv' := [(3, Value.int (l3 + 6)), (0, Value.ref b), (1, k_ra Z 0), (2, k_ra Z 76)]) (k_dg dt_L_law_25 16 1448 (.iinc 3 6) 3 rfl) 3 rfl (by decide) (by decide) rfl ?_
            refine x_goto C (tgt := 18) (k_dg dt_L_law_25 17 1451 (.goto (-1433)) 3 rfl) (by decide) ?_
            refine x_lv [1, 2, 3, 0] rfl ?_
            exact ih (c) (s) (by omega) (by omega) (l3 + 6) M187
          · refine x_iconst C (v := 0) (k_dg dt_L_law_15 39 981 (.iconst 0) 1 rfl) (by decide) ?_
            exact x_zret C (by show c ≤ 600000; omega) (by show s ≤ 7302250; omega) rfl (k_dg dt_L_law_16 0 982 (.ireturn) 1 rfl)
        | 25, _ =>
          show Sm Z G emI _ _ 983 _ _ _ (rdX L xs (l3 + 1) (fun v188 => rdX L xs (l3 + 2) (fun v189 => bd (f_X11_follow v188 v189 M) (fun r190 M191 => rdX L xs (l3 + 1) (fun v192 => rdX L xs (l3 + 2) (fun v193 => bd (f_X12_follow v192 v193 M191) (fun r194 M195 => if r190 = r194 then f_law L xs n (l3 + 6) M195 else some (0, M195))))))))
          refine x_aload_n C (k_dg dt_L_law_16 1 983 (.aload_n 1) 1 rfl) 1 rfl ?_
          refine x_aload_n C (k_dg dt_L_law_16 2 984 (.aload_n 0) 1 rfl) 0 rfl ?_
          refine x_iload_n C (k_dg dt_L_law_16 3 985 (.iload_n 3) 1 rfl) 3 rfl ?_
          refine x_iconst C (v := 1) (k_dg dt_L_law_16 4 986 (.iconst 1) 1 rfl) (by decide) ?_
          refine x_iadd C (k_dg dt_L_law_16 5 987 (.iadd) 1 rfl) ?_
          refine x_xld C hX (k_dg dt_L_law_16 6 988 (.iaload) 1 rfl) (fun v188 => ?_)
          refine x_aload_n C (k_dg dt_L_law_16 7 989 (.aload_n 0) 1 rfl) 0 rfl ?_
          refine x_iload_n C (k_dg dt_L_law_16 8 990 (.iload_n 3) 1 rfl) 3 rfl ?_
          refine x_iconst C (v := 2) (k_dg dt_L_law_16 9 991 (.iconst 2) 1 rfl) (by decide) ?_
          refine x_iadd C (k_dg dt_L_law_16 10 992 (.iadd) 1 rfl) ?_
          refine x_xld C hX (k_dg dt_L_law_16 11 993 (.iaload) 1 rfl) (fun v189 => ?_)
          refine x_callV C (a := 0) (kd := 9) (vs := [Value.int v188, Value.int v189]) (rest := []) rfl rfl (by decide) (fun r hr => by cases hr; rfl) (c_X11_follow C.2.2.2.2.2.2.2.2.2 G.2.1 v188 v189 M) cy_X11_follow lk_RL_122 im_X11_follow se_X11_follow (by decide) (by decide) (by show c + 0 ≤ 600000; omega) (by show s + 0 ≤ 7302250; omega) rfl rfl (Nat.le_of_ble_eq_true rfl) (k_dg dt_L_law_16 12 994 (.invokevirtual 122) 3 rfl) (fun r190 M191 => ?_)
          show Sm Z G _ _ (c, s) _ [(0, Value.ref b), (1, k_ra Z 0), (2, k_ra Z 76), (3, Value.int l3)] [Value.int r190] _ _
          refine x_aload_n C (k_dg dt_L_law_16 13 997 (.aload_n 2) 1 rfl) 2 rfl ?_
          refine x_aload_n C (k_dg dt_L_law_16 14 998 (.aload_n 0) 1 rfl) 0 rfl ?_
          refine x_iload_n C (k_dg dt_L_law_16 15 999 (.iload_n 3) 1 rfl) 3 rfl ?_
          refine x_iconst C (v := 1) (k_dg dt_L_law_16 16 1000 (.iconst 1) 1 rfl) (by decide) ?_
          refine x_iadd C (k_dg dt_L_law_16 17 1001 (.iadd) 1 rfl) ?_
          refine x_xld C hX (k_dg dt_L_law_16 18 1002 (.iaload) 1 rfl) (fun v192 => ?_)
          refine x_aload_n C (k_dg dt_L_law_16 19 1003 (.aload_n 0) 1 rfl) 0 rfl ?_
          refine x_iload_n C (k_dg dt_L_law_16 20 1004 (.iload_n 3) 1 rfl) 3 rfl ?_
          refine x_iconst C (v := 2) (k_dg dt_L_law_16 21 1005 (.iconst 2) 1 rfl) (by decide) ?_
          refine x_iadd C (k_dg dt_L_law_16 22 1006 (.iadd) 1 rfl) ?_
          refine x_xld C hX (k_dg dt_L_law_16 23 1007 (.iaload) 1 rfl) (fun v193 => ?_)
          refine x_callV C (a := 76) (kd := 10) (vs := [Value.int v192, Value.int v193]) (rest := [Value.int r190]) rfl rfl (by decide) (fun r hr => by cases hr; rfl) (c_X12_follow C.2.2.2.2.2.2.2.2.2 G.2.1 v192 v193 M191) cy_X12_follow lk_RL_125 im_X12_follow se_X12_follow (by decide) (by decide) (by show c + 0 ≤ 600000; omega) (by show s + 0 ≤ 7302250; omega) rfl rfl (Nat.le_of_ble_eq_true rfl) (k_dg dt_L_law_16 24 1008 (.invokevirtual 125) 3 rfl) (fun r194 M195 => ?_)
          show Sm Z G _ _ (c, s) _ [(0, Value.ref b), (1, k_ra Z 0), (2, k_ra Z 76), (3, Value.int l3)] [Value.int r194, Value.int r190] _ _
          refine x_icmp_eq C (tgt := 1448) (k_dg dt_L_law_16 25 1011 (.if_icmp .eq 437) 3 rfl) (by decide) (fun _ => ?_) (fun _ => ?_)
          · refine x_iinc C (v := 6) (lv' := [(3, Value.int (l3 + 6)), (0, Value.ref b), (1, k_ra Z 0), (2, k_ra Z 76)]) (k_dg dt_L_law_25 16 1448 (.iinc 3 6) 3 rfl) 3 rfl (by decide) (by decide) rfl ?_
            refine x_goto C (tgt := 18) (k_dg dt_L_law_25 17 1451 (.goto (-1433)) 3 rfl) (by decide) ?_
            refine x_lv [1, 2, 3, 0] rfl ?_
            exact ih (c) (s) (by omega) (by omega) (l3 + 6) M195
          · refine x_iconst C (v := 0) (k_dg dt_L_law_16 26 1014 (.iconst 0) 1 rfl) (by decide) ?_
            exact x_zret C (by show c ≤ 600000; omega) (by show s ≤ 7302250; omega) rfl (k_dg dt_L_law_16 27 1015 (.ireturn) 1 rfl)
        | 26, _ =>
          show Sm Z G emI _ _ 1016 _ _ _ (rdX L xs (l3 + 1) (fun v196 => bd (f_X11_prove v196 M) (fun r197 M198 => rdX L xs (l3 + 1) (fun v199 => bd (f_X12_prove v199 M198) (fun r200 M201 => if r197 = r200 then f_law L xs n (l3 + 6) M201 else some (0, M201))))))
          refine x_aload_n C (k_dg dt_L_law_16 28 1016 (.aload_n 1) 1 rfl) 1 rfl ?_
          refine x_aload_n C (k_dg dt_L_law_16 29 1017 (.aload_n 0) 1 rfl) 0 rfl ?_
          refine x_iload_n C (k_dg dt_L_law_16 30 1018 (.iload_n 3) 1 rfl) 3 rfl ?_
          refine x_iconst C (v := 1) (k_dg dt_L_law_16 31 1019 (.iconst 1) 1 rfl) (by decide) ?_
          refine x_iadd C (k_dg dt_L_law_16 32 1020 (.iadd) 1 rfl) ?_
          refine x_xld C hX (k_dg dt_L_law_16 33 1021 (.iaload) 1 rfl) (fun v196 => ?_)
          refine x_callV C (a := 0) (kd := 9) (vs := [Value.int v196]) (rest := []) rfl rfl (by decide) (fun r hr => by cases hr; rfl) (c_X11_prove C.2.2.2.2.2.2.2.2.2 G.2.1 v196 M) cy_X11_prove lk_RL_126 im_X11_prove se_X11_prove (by decide) (by decide) (by show c + 0 ≤ 600000; omega) (by show s + 0 ≤ 7302250; omega) rfl rfl (Nat.le_of_ble_eq_true rfl) (k_dg dt_L_law_16 34 1022 (.invokevirtual 126) 3 rfl) (fun r197 M198 => ?_)
          show Sm Z G _ _ (c, s) _ [(0, Value.ref b), (1, k_ra Z 0), (2, k_ra Z 76), (3, Value.int l3)] [Value.int r197] _ _
          refine x_aload_n C (k_dg dt_L_law_16 35 1025 (.aload_n 2) 1 rfl) 2 rfl ?_
          refine x_aload_n C (k_dg dt_L_law_16 36 1026 (.aload_n 0) 1 rfl) 0 rfl ?_
          refine x_iload_n C (k_dg dt_L_law_16 37 1027 (.iload_n 3) 1 rfl) 3 rfl ?_
          refine x_iconst C (v := 1) (k_dg dt_L_law_16 38 1028 (.iconst 1) 1 rfl) (by decide) ?_
          refine x_iadd C (k_dg dt_L_law_16 39 1029 (.iadd) 1 rfl) ?_
          refine x_xld C hX (k_dg dt_L_law_17 0 1030 (.iaload) 1 rfl) (fun v199 => ?_)
          refine x_callV C (a := 76) (kd := 10) (vs := [Value.int v199]) (rest := [Value.int r197]) rfl rfl (by decide) (fun r hr => by cases hr; rfl) (c_X12_prove C.2.2.2.2.2.2.2.2.2 G.2.1 v199 M198) cy_X12_prove lk_RL_129 im_X12_prove se_X12_prove (by decide) (by decide) (by show c + 0 ≤ 600000; omega) (by show s + 0 ≤ 7302250; omega) rfl rfl (Nat.le_of_ble_eq_true rfl) (k_dg dt_L_law_17 1 1031 (.invokevirtual 129) 3 rfl) (fun r200 M201 => ?_)
          show Sm Z G _ _ (c, s) _ [(0, Value.ref b), (1, k_ra Z 0), (2, k_ra Z 76), (3, Value.int l3)] [Value.int r200, Value.int r197] _ _
          refine x_icmp_eq C (tgt := 1448) (k_dg dt_L_law_17 2 1034 (.if_icmp .eq 414) 3 rfl) (by decide) (fun _ => ?_) (fun _ => ?_)
          · refine x_iinc C (v := 6) (lv' := [(3, Value.int (l3 + 6)), (0, Value.ref b), (1, k_ra Z 0), (2, k_ra Z 76)]) (k_dg dt_L_law_25 16 1448 (.iinc 3 6) 3 rfl) 3 rfl (by decide) (by decide) rfl ?_
            refine x_goto C (tgt := 18) (k_dg dt_L_law_25 17 1451 (.goto (-1433)) 3 rfl) (by decide) ?_
            refine x_lv [1, 2, 3, 0] rfl ?_
            exact ih (c) (s) (by omega) (by omega) (l3 + 6) M201
          · refine x_iconst C (v := 0) (k_dg dt_L_law_17 3 1037 (.iconst 0) 1 rfl) (by decide) ?_
            exact x_zret C (by show c ≤ 600000; omega) (by show s ≤ 7302250; omega) rfl (k_dg dt_L_law_17 4 1038 (.ireturn) 1 rfl)
        | 27, _ =>
          show Sm Z G emI _ _ 1039 _ _ _ (rdX L xs (l3 + 1) (fun v202 => rdX L xs (l3 + 2) (fun v203 => bd (f_X11_row v202 v203 M) (fun r204 M205 => rdX L xs (l3 + 1) (fun v206 => rdX L xs (l3 + 2) (fun v207 => bd (f_X12_row v206 v207 M205) (fun r208 M209 => if r204 = r208 then f_law L xs n (l3 + 6) M209 else some (0, M209))))))))
          refine x_aload_n C (k_dg dt_L_law_17 5 1039 (.aload_n 1) 1 rfl) 1 rfl ?_
          refine x_aload_n C (k_dg dt_L_law_17 6 1040 (.aload_n 0) 1 rfl) 0 rfl ?_
          refine x_iload_n C (k_dg dt_L_law_17 7 1041 (.iload_n 3) 1 rfl) 3 rfl ?_
          refine x_iconst C (v := 1) (k_dg dt_L_law_17 8 1042 (.iconst 1) 1 rfl) (by decide) ?_
          refine x_iadd C (k_dg dt_L_law_17 9 1043 (.iadd) 1 rfl) ?_
          refine x_xld C hX (k_dg dt_L_law_17 10 1044 (.iaload) 1 rfl) (fun v202 => ?_)
          refine x_aload_n C (k_dg dt_L_law_17 11 1045 (.aload_n 0) 1 rfl) 0 rfl ?_
          refine x_iload_n C (k_dg dt_L_law_17 12 1046 (.iload_n 3) 1 rfl) 3 rfl ?_
          refine x_iconst C (v := 2) (k_dg dt_L_law_17 13 1047 (.iconst 2) 1 rfl) (by decide) ?_
          refine x_iadd C (k_dg dt_L_law_17 14 1048 (.iadd) 1 rfl) ?_
          refine x_xld C hX (k_dg dt_L_law_17 15 1049 (.iaload) 1 rfl) (fun v203 => ?_)
          refine x_callV C (a := 0) (kd := 9) (vs := [Value.int v202, Value.int v203]) (rest := []) rfl rfl (by decide) (fun r hr => by cases hr; rfl) (c_X11_row C.2.2.2.2.2.2.2.2.2 G.2.1 v202 v203 M) cy_X11_row lk_RL_130 im_X11_row se_X11_row (by decide) (by decide) (by show c + 0 ≤ 600000; omega) (by show s + 0 ≤ 7302250; omega) rfl rfl (Nat.le_of_ble_eq_true rfl) (k_dg dt_L_law_17 16 1050 (.invokevirtual 130) 3 rfl) (fun r204 M205 => ?_)
          show Sm Z G _ _ (c, s) _ [(0, Value.ref b), (1, k_ra Z 0), (2, k_ra Z 76), (3, Value.int l3)] [Value.int r204] _ _
          refine x_aload_n C (k_dg dt_L_law_17 17 1053 (.aload_n 2) 1 rfl) 2 rfl ?_
          refine x_aload_n C (k_dg dt_L_law_17 18 1054 (.aload_n 0) 1 rfl) 0 rfl ?_
          refine x_iload_n C (k_dg dt_L_law_17 19 1055 (.iload_n 3) 1 rfl) 3 rfl ?_
          refine x_iconst C (v := 1) (k_dg dt_L_law_17 20 1056 (.iconst 1) 1 rfl) (by decide) ?_
          refine x_iadd C (k_dg dt_L_law_17 21 1057 (.iadd) 1 rfl) ?_
          refine x_xld C hX (k_dg dt_L_law_17 22 1058 (.iaload) 1 rfl) (fun v206 => ?_)
          refine x_aload_n C (k_dg dt_L_law_17 23 1059 (.aload_n 0) 1 rfl) 0 rfl ?_
          refine x_iload_n C (k_dg dt_L_law_17 24 1060 (.iload_n 3) 1 rfl) 3 rfl ?_
          refine x_iconst C (v := 2) (k_dg dt_L_law_17 25 1061 (.iconst 2) 1 rfl) (by decide) ?_
          refine x_iadd C (k_dg dt_L_law_17 26 1062 (.iadd) 1 rfl) ?_
          refine x_xld C hX (k_dg dt_L_law_17 27 1063 (.iaload) 1 rfl) (fun v207 => ?_)
          refine x_callV C (a := 76) (kd := 10) (vs := [Value.int v206, Value.int v207]) (rest := [Value.int r204]) rfl rfl (by decide) (fun r hr => by cases hr; rfl) (c_X12_row C.2.2.2.2.2.2.2.2.2 G.2.1 v206 v207 M205) cy_X12_row lk_RL_133 im_X12_row se_X12_row (by decide) (by decide) (by show c + 0 ≤ 600000; omega) (by show s + 0 ≤ 7302250; omega) rfl rfl (Nat.le_of_ble_eq_true rfl) (k_dg dt_L_law_17 28 1064 (.invokevirtual 133) 3 rfl) (fun r208 M209 => ?_)
          show Sm Z G _ _ (c, s) _ [(0, Value.ref b), (1, k_ra Z 0), (2, k_ra Z 76), (3, Value.int l3)] [Value.int r208, Value.int r204] _ _
          refine x_icmp_eq C (tgt := 1448) (k_dg dt_L_law_17 29 1067 (.if_icmp .eq 381) 3 rfl) (by decide) (fun _ => ?_) (fun _ => ?_)
          · refine x_iinc C (v := 6) (lv' := [(3, Value.int (l3 + 6)), (0, Value.ref b), (1, k_ra Z 0), (2, k_ra Z 76)]) (k_dg dt_L_law_25 16 1448 (.iinc 3 6) 3 rfl) 3 rfl (by decide) (by decide) rfl ?_
            refine x_goto C (tgt := 18) (k_dg dt_L_law_25 17 1451 (.goto (-1433)) 3 rfl) (by decide) ?_
            refine x_lv [1, 2, 3, 0] rfl ?_
            exact ih (c) (s) (by omega) (by omega) (l3 + 6) M209
          · refine x_iconst C (v := 0) (k_dg dt_L_law_17 30 1070 (.iconst 0) 1 rfl) (by decide) ?_
            exact x_zret C (by show c ≤ 600000; omega) (by show s ≤ 7302250; omega) rfl (k_dg dt_L_law_17 31 1071 (.ireturn) 1 rfl)
        | 28, _ =>
          show Sm Z G emI _ _ 1072 _ _ _ (rdX L xs (l3 + 1) (fun v210 => rdX L xs (l3 + 2) (fun v211 => rdX L xs (l3 + 3) (fun v212 => bd (f_X11_alterRow v210 v211 v212 M) (fun r213 M214 => rdX L xs (l3 + 1) (fun v215 => rdX L xs (l3 + 2) (fun v216 => rdX L xs (l3 + 3) (fun v217 => bd (f_X12_alterRow v215 v216 v217 M214) (fun r218 M219 => if r213 = r218 then f_law L xs n (l3 + 6) M219 else some (0, M219))))))))))
          refine x_aload_n C (k_dg dt_L_law_17 32 1072 (.aload_n 1) 1 rfl) 1 rfl ?_
          refine x_aload_n C (k_dg dt_L_law_17 33 1073 (.aload_n 0) 1 rfl) 0 rfl ?_
          refine x_iload_n C (k_dg dt_L_law_17 34 1074 (.iload_n 3) 1 rfl) 3 rfl ?_
          refine x_iconst C (v := 1) (k_dg dt_L_law_17 35 1075 (.iconst 1) 1 rfl) (by decide) ?_
          refine x_iadd C (k_dg dt_L_law_17 36 1076 (.iadd) 1 rfl) ?_
          refine x_xld C hX (k_dg dt_L_law_17 37 1077 (.iaload) 1 rfl) (fun v210 => ?_)
          refine x_aload_n C (k_dg dt_L_law_17 38 1078 (.aload_n 0) 1 rfl) 0 rfl ?_
          refine x_iload_n C (k_dg dt_L_law_17 39 1079 (.iload_n 3) 1 rfl) 3 rfl ?_
          refine x_iconst C (v := 2) (k_dg dt_L_law_18 0 1080 (.iconst 2) 1 rfl) (by decide) ?_
          refine x_iadd C (k_dg dt_L_law_18 1 1081 (.iadd) 1 rfl) ?_
          refine x_xld C hX (k_dg dt_L_law_18 2 1082 (.iaload) 1 rfl) (fun v211 => ?_)
          refine x_aload_n C (k_dg dt_L_law_18 3 1083 (.aload_n 0) 1 rfl) 0 rfl ?_
          refine x_iload_n C (k_dg dt_L_law_18 4 1084 (.iload_n 3) 1 rfl) 3 rfl ?_
          refine x_iconst C (v := 3) (k_dg dt_L_law_18 5 1085 (.iconst 3) 1 rfl) (by decide) ?_
          refine x_iadd C (k_dg dt_L_law_18 6 1086 (.iadd) 1 rfl) ?_
          refine x_xld C hX (k_dg dt_L_law_18 7 1087 (.iaload) 1 rfl) (fun v212 => ?_)
          refine x_callV C (a := 0) (kd := 9) (vs := [Value.int v210, Value.int v211, Value.int v212]) (rest := []) rfl rfl (by decide) (fun r hr => by cases hr; rfl) (c_X11_alterRow C.2.2.2.2.2.2.2.2.2 G.2.1 v210 v211 v212 M) cy_X11_alterRow lk_RL_134 im_X11_alterRow se_X11_alterRow (by decide) (by decide) (by show c + 0 ≤ 600000; omega) (by show s + 0 ≤ 7302250; omega) rfl rfl (Nat.le_of_ble_eq_true rfl) (k_dg dt_L_law_18 8 1088 (.invokevirtual 134) 3 rfl) (fun r213 M214 => ?_)
          show Sm Z G _ _ (c, s) _ [(0, Value.ref b), (1, k_ra Z 0), (2, k_ra Z 76), (3, Value.int l3)] [Value.int r213] _ _
          refine x_aload_n C (k_dg dt_L_law_18 9 1091 (.aload_n 2) 1 rfl) 2 rfl ?_
          refine x_aload_n C (k_dg dt_L_law_18 10 1092 (.aload_n 0) 1 rfl) 0 rfl ?_
          refine x_iload_n C (k_dg dt_L_law_18 11 1093 (.iload_n 3) 1 rfl) 3 rfl ?_
          refine x_iconst C (v := 1) (k_dg dt_L_law_18 12 1094 (.iconst 1) 1 rfl) (by decide) ?_
          refine x_iadd C (k_dg dt_L_law_18 13 1095 (.iadd) 1 rfl) ?_
          refine x_xld C hX (k_dg dt_L_law_18 14 1096 (.iaload) 1 rfl) (fun v215 => ?_)
          refine x_aload_n C (k_dg dt_L_law_18 15 1097 (.aload_n 0) 1 rfl) 0 rfl ?_
          refine x_iload_n C (k_dg dt_L_law_18 16 1098 (.iload_n 3) 1 rfl) 3 rfl ?_
          refine x_iconst C (v := 2) (k_dg dt_L_law_18 17 1099 (.iconst 2) 1 rfl) (by decide) ?_
          refine x_iadd C (k_dg dt_L_law_18 18 1100 (.iadd) 1 rfl) ?_
          refine x_xld C hX (k_dg dt_L_law_18 19 1101 (.iaload) 1 rfl) (fun v216 => ?_)
          refine x_aload_n C (k_dg dt_L_law_18 20 1102 (.aload_n 0) 1 rfl) 0 rfl ?_
          refine x_iload_n C (k_dg dt_L_law_18 21 1103 (.iload_n 3) 1 rfl) 3 rfl ?_
          refine x_iconst C (v := 3) (k_dg dt_L_law_18 22 1104 (.iconst 3) 1 rfl) (by decide) ?_
          refine x_iadd C (k_dg dt_L_law_18 23 1105 (.iadd) 1 rfl) ?_
          refine x_xld C hX (k_dg dt_L_law_18 24 1106 (.iaload) 1 rfl) (fun v217 => ?_)
          refine x_callV C (a := 76) (kd := 10) (vs := [Value.int v215, Value.int v216, Value.int v217]) (rest := [Value.int r213]) rfl rfl (by decide) (fun r hr => by cases hr; rfl) (c_X12_alterRow C.2.2.2.2.2.2.2.2.2 G.2.1 v215 v216 v217 M214) cy_X12_alterRow lk_RL_137 im_X12_alterRow se_X12_alterRow (by decide) (by decide) (by show c + 0 ≤ 600000; omega) (by show s + 0 ≤ 7302250; omega) rfl rfl (Nat.le_of_ble_eq_true rfl) (k_dg dt_L_law_18 25 1107 (.invokevirtual 137) 3 rfl) (fun r218 M219 => ?_)
          show Sm Z G _ _ (c, s) _ [(0, Value.ref b), (1, k_ra Z 0), (2, k_ra Z 76), (3, Value.int l3)] [Value.int r218, Value.int r213] _ _
          refine x_icmp_eq C (tgt := 1448) (k_dg dt_L_law_18 26 1110 (.if_icmp .eq 338) 3 rfl) (by decide) (fun _ => ?_) (fun _ => ?_)
          · refine x_iinc C (v := 6) (lv' := [(3, Value.int (l3 + 6)), (0, Value.ref b), (1, k_ra Z 0), (2, k_ra Z 76)]) (k_dg dt_L_law_25 16 1448 (.iinc 3 6) 3 rfl) 3 rfl (by decide) (by decide) rfl ?_
            refine x_goto C (tgt := 18) (k_dg dt_L_law_25 17 1451 (.goto (-1433)) 3 rfl) (by decide) ?_
            refine x_lv [1, 2, 3, 0] rfl ?_
            exact ih (c) (s) (by omega) (by omega) (l3 + 6) M219
          · refine x_iconst C (v := 0) (k_dg dt_L_law_18 27 1113 (.iconst 0) 1 rfl) (by decide) ?_
            exact x_zret C (by show c ≤ 600000; omega) (by show s ≤ 7302250; omega) rfl (k_dg dt_L_law_18 28 1114 (.ireturn) 1 rfl)
        | 29, _ =>
          show Sm Z G emI _ _ 1115 _ _ _ (bd (f_X11_judge M) (fun r220 M221 => bd (f_X12_judge M221) (fun r222 M223 => if r220 = r222 then f_law L xs n (l3 + 6) M223 else some (0, M223))))
          refine x_aload_n C (k_dg dt_L_law_18 29 1115 (.aload_n 1) 1 rfl) 1 rfl ?_
          refine x_callV C (a := 0) (kd := 9) (vs := []) (rest := []) rfl rfl (by decide) (fun r hr => by cases hr; rfl) (c_X11_judge C.2.2.2.2.2.2.2.2.2 G.2.1 M) cy_X11_judge lk_RL_138 im_X11_judge se_X11_judge (by decide) (by decide) (by show c + 0 ≤ 600000; omega) (by show s + 0 ≤ 7302250; omega) rfl rfl (Nat.le_of_ble_eq_true rfl) (k_dg dt_L_law_18 30 1116 (.invokevirtual 138) 3 rfl) (fun r220 M221 => ?_)
          show Sm Z G _ _ (c, s) _ [(0, Value.ref b), (1, k_ra Z 0), (2, k_ra Z 76), (3, Value.int l3)] [Value.int r220] _ _
          refine x_aload_n C (k_dg dt_L_law_18 31 1119 (.aload_n 2) 1 rfl) 2 rfl ?_
          refine x_callV C (a := 76) (kd := 10) (vs := []) (rest := [Value.int r220]) rfl rfl (by decide) (fun r hr => by cases hr; rfl) (c_X12_judge C.2.2.2.2.2.2.2.2.2 G.2.1 M221) cy_X12_judge lk_RL_141 im_X12_judge se_X12_judge (by decide) (by decide) (by show c + 0 ≤ 600000; omega) (by show s + 0 ≤ 7302250; omega) rfl rfl (Nat.le_of_ble_eq_true rfl) (k_dg dt_L_law_18 32 1120 (.invokevirtual 141) 3 rfl) (fun r222 M223 => ?_)
          show Sm Z G _ _ (c, s) _ [(0, Value.ref b), (1, k_ra Z 0), (2, k_ra Z 76), (3, Value.int l3)] [Value.int r222, Value.int r220] _ _
          refine x_icmp_eq C (tgt := 1448) (k_dg dt_L_law_18 33 1123 (.if_icmp .eq 325) 3 rfl) (by decide) (fun _ => ?_) (fun _ => ?_)
          · refine x_iinc C (v := 6) (lv' := [(3, Value.int (l3 + 6)), (0, Value.ref b), (1, k_ra Z 0), (2, k_ra Z 76)]) (k_dg dt_L_law_25 16 1448 (.iinc 3 6) 3 rfl) 3 rfl (by decide) (by decide) rfl ?_
            refine x_goto C (tgt := 18) (k_dg dt_L_law_25 17 1451 (.goto (-1433)) 3 rfl) (by decide) ?_
            refine x_lv [1, 2, 3, 0] rfl ?_
            exact ih (c) (s) (by omega) (by omega) (l3 + 6) M223
          · refine x_iconst C (v := 0) (k_dg dt_L_law_18 34 1126 (.iconst 0) 1 rfl) (by decide) ?_
            exact x_zret C (by show c ≤ 600000; omega) (by show s ≤ 7302250; omega) rfl (k_dg dt_L_law_18 35 1127 (.ireturn) 1 rfl)
        | 30, _ =>
          show Sm Z G emI _ _ 1128 _ _ _ (rdX L xs (l3 + 1) (fun v224 => rdX L xs (l3 + 2) (fun v225 => rdX L xs (l3 + 3) (fun v226 => bd (f_X11_sheet v224 v225 v226 M) (fun r227 M228 => rdX L xs (l3 + 1) (fun v229 => rdX L xs (l3 + 2) (fun v230 => rdX L xs (l3 + 3) (fun v231 => bd (f_X12_sheet v229 v230 v231 M228) (fun r232 M233 => if r227 = r232 then f_law L xs n (l3 + 6) M233 else some (0, M233))))))))))
          refine x_aload_n C (k_dg dt_L_law_18 36 1128 (.aload_n 1) 1 rfl) 1 rfl ?_
          refine x_aload_n C (k_dg dt_L_law_18 37 1129 (.aload_n 0) 1 rfl) 0 rfl ?_
          refine x_iload_n C (k_dg dt_L_law_18 38 1130 (.iload_n 3) 1 rfl) 3 rfl ?_
          refine x_iconst C (v := 1) (k_dg dt_L_law_18 39 1131 (.iconst 1) 1 rfl) (by decide) ?_
          refine x_iadd C (k_dg dt_L_law_19 0 1132 (.iadd) 1 rfl) ?_
          refine x_xld C hX (k_dg dt_L_law_19 1 1133 (.iaload) 1 rfl) (fun v224 => ?_)
          refine x_aload_n C (k_dg dt_L_law_19 2 1134 (.aload_n 0) 1 rfl) 0 rfl ?_
          refine x_iload_n C (k_dg dt_L_law_19 3 1135 (.iload_n 3) 1 rfl) 3 rfl ?_
          refine x_iconst C (v := 2) (k_dg dt_L_law_19 4 1136 (.iconst 2) 1 rfl) (by decide) ?_
          refine x_iadd C (k_dg dt_L_law_19 5 1137 (.iadd) 1 rfl) ?_
          refine x_xld C hX (k_dg dt_L_law_19 6 1138 (.iaload) 1 rfl) (fun v225 => ?_)
          refine x_aload_n C (k_dg dt_L_law_19 7 1139 (.aload_n 0) 1 rfl) 0 rfl ?_
          refine x_iload_n C (k_dg dt_L_law_19 8 1140 (.iload_n 3) 1 rfl) 3 rfl ?_
          refine x_iconst C (v := 3) (k_dg dt_L_law_19 9 1141 (.iconst 3) 1 rfl) (by decide) ?_
          refine x_iadd C (k_dg dt_L_law_19 10 1142 (.iadd) 1 rfl) ?_
          refine x_xld C hX (k_dg dt_L_law_19 11 1143 (.iaload) 1 rfl) (fun v226 => ?_)
          refine x_callV C (a := 0) (kd := 9) (vs := [Value.int v224, Value.int v225, Value.int v226]) (rest := []) rfl rfl (by decide) (fun r hr => by cases hr; rfl) (c_X11_sheet C.2.2.2.2.2.2.2.2.2 G.2.1 v224 v225 v226 M) cy_X11_sheet lk_RL_142 im_X11_sheet se_X11_sheet (by decide) (by decide) (by show c + 0 ≤ 600000; omega) (by show s + 0 ≤ 7302250; omega) rfl rfl (Nat.le_of_ble_eq_true rfl) (k_dg dt_L_law_19 12 1144 (.invokevirtual 142) 3 rfl) (fun r227 M228 => ?_)
          show Sm Z G _ _ (c, s) _ [(0, Value.ref b), (1, k_ra Z 0), (2, k_ra Z 76), (3, Value.int l3)] [Value.int r227] _ _
          refine x_aload_n C (k_dg dt_L_law_19 13 1147 (.aload_n 2) 1 rfl) 2 rfl ?_
          refine x_aload_n C (k_dg dt_L_law_19 14 1148 (.aload_n 0) 1 rfl) 0 rfl ?_
          refine x_iload_n C (k_dg dt_L_law_19 15 1149 (.iload_n 3) 1 rfl) 3 rfl ?_
          refine x_iconst C (v := 1) (k_dg dt_L_law_19 16 1150 (.iconst 1) 1 rfl) (by decide) ?_
          refine x_iadd C (k_dg dt_L_law_19 17 1151 (.iadd) 1 rfl) ?_
          refine x_xld C hX (k_dg dt_L_law_19 18 1152 (.iaload) 1 rfl) (fun v229 => ?_)
          refine x_aload_n C (k_dg dt_L_law_19 19 1153 (.aload_n 0) 1 rfl) 0 rfl ?_
          refine x_iload_n C (k_dg dt_L_law_19 20 1154 (.iload_n 3) 1 rfl) 3 rfl ?_
          refine x_iconst C (v := 2) (k_dg dt_L_law_19 21 1155 (.iconst 2) 1 rfl) (by decide) ?_
          refine x_iadd C (k_dg dt_L_law_19 22 1156 (.iadd) 1 rfl) ?_
          refine x_xld C hX (k_dg dt_L_law_19 23 1157 (.iaload) 1 rfl) (fun v230 => ?_)
          refine x_aload_n C (k_dg dt_L_law_19 24 1158 (.aload_n 0) 1 rfl) 0 rfl ?_
          refine x_iload_n C (k_dg dt_L_law_19 25 1159 (.iload_n 3) 1 rfl) 3 rfl ?_
          refine x_iconst C (v := 3) (k_dg dt_L_law_19 26 1160 (.iconst 3) 1 rfl) (by decide) ?_
          refine x_iadd C (k_dg dt_L_law_19 27 1161 (.iadd) 1 rfl) ?_
          refine x_xld C hX (k_dg dt_L_law_19 28 1162 (.iaload) 1 rfl) (fun v231 => ?_)
          refine x_callV C (a := 76) (kd := 10) (vs := [Value.int v229, Value.int v230, Value.int v231]) (rest := [Value.int r227]) rfl rfl (by decide) (fun r hr => by cases hr; rfl) (c_X12_sheet C.2.2.2.2.2.2.2.2.2 G.2.1 v229 v230 v231 M228) cy_X12_sheet lk_RL_145 im_X12_sheet se_X12_sheet (by decide) (by decide) (by show c + 0 ≤ 600000; omega) (by show s + 0 ≤ 7302250; omega) rfl rfl (Nat.le_of_ble_eq_true rfl) (k_dg dt_L_law_19 29 1163 (.invokevirtual 145) 3 rfl) (fun r232 M233 => ?_)
          show Sm Z G _ _ (c, s) _ [(0, Value.ref b), (1, k_ra Z 0), (2, k_ra Z 76), (3, Value.int l3)] [Value.int r232, Value.int r227] _ _
          refine x_icmp_eq C (tgt := 1448) (k_dg dt_L_law_19 30 1166 (.if_icmp .eq 282) 3 rfl) (by decide) (fun _ => ?_) (fun _ => ?_)
          · refine x_iinc C (v := 6) (lv' := [(3, Value.int (l3 + 6)), (0, Value.ref b), (1, k_ra Z 0), (2, k_ra Z 76)]) (k_dg dt_L_law_25 16 1448 (.iinc 3 6) 3 rfl) 3 rfl (by decide) (by decide) rfl ?_
            refine x_goto C (tgt := 18) (k_dg dt_L_law_25 17 1451 (.goto (-1433)) 3 rfl) (by decide) ?_
            refine x_lv [1, 2, 3, 0] rfl ?_
            exact ih (c) (s) (by omega) (by omega) (l3 + 6) M233
          · refine x_iconst C (v := 0) (k_dg dt_L_law_19 31 1169 (.iconst 0) 1 rfl) (by decide) ?_
            exact x_zret C (by show c ≤ 600000; omega) (by show s ≤ 7302250; omega) rfl (k_dg dt_L_law_19 32 1170 (.ireturn) 1 rfl)
        | 31, _ =>
          show Sm Z G emI _ _ 1171 _ _ _ (rdX L xs (l3 + 1) (fun v234 => rdX L xs (l3 + 2) (fun v235 => rdX L xs (l3 + 3) (fun v236 => bd (f_X11_put v234 v235 v236 M) (fun r237 M238 => rdX L xs (l3 + 1) (fun v239 => rdX L xs (l3 + 2) (fun v240 => rdX L xs (l3 + 3) (fun v241 => bd (f_X12_put v239 v240 v241 M238) (fun r242 M243 => if r237 = r242 then f_law L xs n (l3 + 6) M243 else some (0, M243))))))))))
          refine x_aload_n C (k_dg dt_L_law_19 33 1171 (.aload_n 1) 1 rfl) 1 rfl ?_
          refine x_aload_n C (k_dg dt_L_law_19 34 1172 (.aload_n 0) 1 rfl) 0 rfl ?_
          refine x_iload_n C (k_dg dt_L_law_19 35 1173 (.iload_n 3) 1 rfl) 3 rfl ?_
          refine x_iconst C (v := 1) (k_dg dt_L_law_19 36 1174 (.iconst 1) 1 rfl) (by decide) ?_
          refine x_iadd C (k_dg dt_L_law_19 37 1175 (.iadd) 1 rfl) ?_
          refine x_xld C hX (k_dg dt_L_law_19 38 1176 (.iaload) 1 rfl) (fun v234 => ?_)
          refine x_aload_n C (k_dg dt_L_law_19 39 1177 (.aload_n 0) 1 rfl) 0 rfl ?_
          refine x_iload_n C (k_dg dt_L_law_20 0 1178 (.iload_n 3) 1 rfl) 3 rfl ?_
          refine x_iconst C (v := 2) (k_dg dt_L_law_20 1 1179 (.iconst 2) 1 rfl) (by decide) ?_
          refine x_iadd C (k_dg dt_L_law_20 2 1180 (.iadd) 1 rfl) ?_
          refine x_xld C hX (k_dg dt_L_law_20 3 1181 (.iaload) 1 rfl) (fun v235 => ?_)
          refine x_aload_n C (k_dg dt_L_law_20 4 1182 (.aload_n 0) 1 rfl) 0 rfl ?_
          refine x_iload_n C (k_dg dt_L_law_20 5 1183 (.iload_n 3) 1 rfl) 3 rfl ?_
          refine x_iconst C (v := 3) (k_dg dt_L_law_20 6 1184 (.iconst 3) 1 rfl) (by decide) ?_
          refine x_iadd C (k_dg dt_L_law_20 7 1185 (.iadd) 1 rfl) ?_
          refine x_xld C hX (k_dg dt_L_law_20 8 1186 (.iaload) 1 rfl) (fun v236 => ?_)
          refine x_callV C (a := 0) (kd := 9) (vs := [Value.int v234, Value.int v235, Value.int v236]) (rest := []) rfl rfl (by decide) (fun r hr => by cases hr; rfl) (c_X11_put C.2.2.2.2.2.2.2.2.2 G.2.1 v234 v235 v236 M) cy_X11_put lk_RL_146 im_X11_put se_X11_put (by decide) (by decide) (by show c + 0 ≤ 600000; omega) (by show s + 0 ≤ 7302250; omega) rfl rfl (Nat.le_of_ble_eq_true rfl) (k_dg dt_L_law_20 9 1187 (.invokevirtual 146) 3 rfl) (fun r237 M238 => ?_)
          show Sm Z G _ _ (c, s) _ [(0, Value.ref b), (1, k_ra Z 0), (2, k_ra Z 76), (3, Value.int l3)] [Value.int r237] _ _
          refine x_aload_n C (k_dg dt_L_law_20 10 1190 (.aload_n 2) 1 rfl) 2 rfl ?_
          refine x_aload_n C (k_dg dt_L_law_20 11 1191 (.aload_n 0) 1 rfl) 0 rfl ?_
          refine x_iload_n C (k_dg dt_L_law_20 12 1192 (.iload_n 3) 1 rfl) 3 rfl ?_
          refine x_iconst C (v := 1) (k_dg dt_L_law_20 13 1193 (.iconst 1) 1 rfl) (by decide) ?_
          refine x_iadd C (k_dg dt_L_law_20 14 1194 (.iadd) 1 rfl) ?_
          refine x_xld C hX (k_dg dt_L_law_20 15 1195 (.iaload) 1 rfl) (fun v239 => ?_)
          refine x_aload_n C (k_dg dt_L_law_20 16 1196 (.aload_n 0) 1 rfl) 0 rfl ?_
          refine x_iload_n C (k_dg dt_L_law_20 17 1197 (.iload_n 3) 1 rfl) 3 rfl ?_
          refine x_iconst C (v := 2) (k_dg dt_L_law_20 18 1198 (.iconst 2) 1 rfl) (by decide) ?_
          refine x_iadd C (k_dg dt_L_law_20 19 1199 (.iadd) 1 rfl) ?_
          refine x_xld C hX (k_dg dt_L_law_20 20 1200 (.iaload) 1 rfl) (fun v240 => ?_)
          refine x_aload_n C (k_dg dt_L_law_20 21 1201 (.aload_n 0) 1 rfl) 0 rfl ?_
          refine x_iload_n C (k_dg dt_L_law_20 22 1202 (.iload_n 3) 1 rfl) 3 rfl ?_
          refine x_iconst C (v := 3) (k_dg dt_L_law_20 23 1203 (.iconst 3) 1 rfl) (by decide) ?_
          refine x_iadd C (k_dg dt_L_law_20 24 1204 (.iadd) 1 rfl) ?_
          refine x_xld C hX (k_dg dt_L_law_20 25 1205 (.iaload) 1 rfl) (fun v241 => ?_)
          refine x_callV C (a := 76) (kd := 10) (vs := [Value.int v239, Value.int v240, Value.int v241]) (rest := [Value.int r237]) rfl rfl (by decide) (fun r hr => by cases hr; rfl) (c_X12_put C.2.2.2.2.2.2.2.2.2 G.2.1 v239 v240 v241 M238) cy_X12_put lk_RL_149 im_X12_put se_X12_put (by decide) (by decide) (by show c + 0 ≤ 600000; omega) (by show s + 0 ≤ 7302250; omega) rfl rfl (Nat.le_of_ble_eq_true rfl) (k_dg dt_L_law_20 26 1206 (.invokevirtual 149) 3 rfl) (fun r242 M243 => ?_)
          show Sm Z G _ _ (c, s) _ [(0, Value.ref b), (1, k_ra Z 0), (2, k_ra Z 76), (3, Value.int l3)] [Value.int r242, Value.int r237] _ _
          refine x_icmp_eq C (tgt := 1448) (k_dg dt_L_law_20 27 1209 (.if_icmp .eq 239) 3 rfl) (by decide) (fun _ => ?_) (fun _ => ?_)
          · refine x_iinc C (v := 6) (lv' := [(3, Value.int (l3 + 6)), (0, Value.ref b), (1, k_ra Z 0), (2, k_ra Z 76)]) (k_dg dt_L_law_25 16 1448 (.iinc 3 6) 3 rfl) 3 rfl (by decide) (by decide) rfl ?_
            refine x_goto C (tgt := 18) (k_dg dt_L_law_25 17 1451 (.goto (-1433)) 3 rfl) (by decide) ?_
            refine x_lv [1, 2, 3, 0] rfl ?_
            exact ih (c) (s) (by omega) (by omega) (l3 + 6) M243
          · refine x_iconst C (v := 0) (k_dg dt_L_law_20 28 1212 (.iconst 0) 1 rfl) (by decide) ?_
            exact x_zret C (by show c ≤ 600000; omega) (by show s ≤ 7302250; omega) rfl (k_dg dt_L_law_20 29 1213 (.ireturn) 1 rfl)
        | 32, _ =>
          show Sm Z G emI _ _ 1214 _ _ _ (rdX L xs (l3 + 1) (fun v244 => rdX L xs (l3 + 2) (fun v245 => rdX L xs (l3 + 3) (fun v246 => bd (f_X11_item v244 v245 v246 M) (fun r247 M248 => rdX L xs (l3 + 1) (fun v249 => rdX L xs (l3 + 2) (fun v250 => rdX L xs (l3 + 3) (fun v251 => bd (f_X12_item v249 v250 v251 M248) (fun r252 M253 => if r247 = r252 then f_law L xs n (l3 + 6) M253 else some (0, M253))))))))))
          refine x_aload_n C (k_dg dt_L_law_20 30 1214 (.aload_n 1) 1 rfl) 1 rfl ?_
          refine x_aload_n C (k_dg dt_L_law_20 31 1215 (.aload_n 0) 1 rfl) 0 rfl ?_
          refine x_iload_n C (k_dg dt_L_law_20 32 1216 (.iload_n 3) 1 rfl) 3 rfl ?_
          refine x_iconst C (v := 1) (k_dg dt_L_law_20 33 1217 (.iconst 1) 1 rfl) (by decide) ?_
          refine x_iadd C (k_dg dt_L_law_20 34 1218 (.iadd) 1 rfl) ?_
          refine x_xld C hX (k_dg dt_L_law_20 35 1219 (.iaload) 1 rfl) (fun v244 => ?_)
          refine x_aload_n C (k_dg dt_L_law_20 36 1220 (.aload_n 0) 1 rfl) 0 rfl ?_
          refine x_iload_n C (k_dg dt_L_law_20 37 1221 (.iload_n 3) 1 rfl) 3 rfl ?_
          refine x_iconst C (v := 2) (k_dg dt_L_law_20 38 1222 (.iconst 2) 1 rfl) (by decide) ?_
          refine x_iadd C (k_dg dt_L_law_20 39 1223 (.iadd) 1 rfl) ?_
          refine x_xld C hX (k_dg dt_L_law_21 0 1224 (.iaload) 1 rfl) (fun v245 => ?_)
          refine x_aload_n C (k_dg dt_L_law_21 1 1225 (.aload_n 0) 1 rfl) 0 rfl ?_
          refine x_iload_n C (k_dg dt_L_law_21 2 1226 (.iload_n 3) 1 rfl) 3 rfl ?_
          refine x_iconst C (v := 3) (k_dg dt_L_law_21 3 1227 (.iconst 3) 1 rfl) (by decide) ?_
          refine x_iadd C (k_dg dt_L_law_21 4 1228 (.iadd) 1 rfl) ?_
          refine x_xld C hX (k_dg dt_L_law_21 5 1229 (.iaload) 1 rfl) (fun v246 => ?_)
          refine x_callV C (a := 0) (kd := 9) (vs := [Value.int v244, Value.int v245, Value.int v246]) (rest := []) rfl rfl (by decide) (fun r hr => by cases hr; rfl) (c_X11_item C.2.2.2.2.2.2.2.2.2 G.2.1 v244 v245 v246 M) cy_X11_item lk_RL_150 im_X11_item se_X11_item (by decide) (by decide) (by show c + 0 ≤ 600000; omega) (by show s + 0 ≤ 7302250; omega) rfl rfl (Nat.le_of_ble_eq_true rfl) (k_dg dt_L_law_21 6 1230 (.invokevirtual 150) 3 rfl) (fun r247 M248 => ?_)
          show Sm Z G _ _ (c, s) _ [(0, Value.ref b), (1, k_ra Z 0), (2, k_ra Z 76), (3, Value.int l3)] [Value.int r247] _ _
          refine x_aload_n C (k_dg dt_L_law_21 7 1233 (.aload_n 2) 1 rfl) 2 rfl ?_
          refine x_aload_n C (k_dg dt_L_law_21 8 1234 (.aload_n 0) 1 rfl) 0 rfl ?_
          refine x_iload_n C (k_dg dt_L_law_21 9 1235 (.iload_n 3) 1 rfl) 3 rfl ?_
          refine x_iconst C (v := 1) (k_dg dt_L_law_21 10 1236 (.iconst 1) 1 rfl) (by decide) ?_
          refine x_iadd C (k_dg dt_L_law_21 11 1237 (.iadd) 1 rfl) ?_
          refine x_xld C hX (k_dg dt_L_law_21 12 1238 (.iaload) 1 rfl) (fun v249 => ?_)
          refine x_aload_n C (k_dg dt_L_law_21 13 1239 (.aload_n 0) 1 rfl) 0 rfl ?_
          refine x_iload_n C (k_dg dt_L_law_21 14 1240 (.iload_n 3) 1 rfl) 3 rfl ?_
          refine x_iconst C (v := 2) (k_dg dt_L_law_21 15 1241 (.iconst 2) 1 rfl) (by decide) ?_
          refine x_iadd C (k_dg dt_L_law_21 16 1242 (.iadd) 1 rfl) ?_
          refine x_xld C hX (k_dg dt_L_law_21 17 1243 (.iaload) 1 rfl) (fun v250 => ?_)
          refine x_aload_n C (k_dg dt_L_law_21 18 1244 (.aload_n 0) 1 rfl) 0 rfl ?_
          refine x_iload_n C (k_dg dt_L_law_21 19 1245 (.iload_n 3) 1 rfl) 3 rfl ?_
          refine x_iconst C (v := 3) (k_dg dt_L_law_21 20 1246 (.iconst 3) 1 rfl) (by decide) ?_
          refine x_iadd C (k_dg dt_L_law_21 21 1247 (.iadd) 1 rfl) ?_
          refine x_xld C hX (k_dg dt_L_law_21 22 1248 (.iaload) 1 rfl) (fun v251 => ?_)
          refine x_callV C (a := 76) (kd := 10) (vs := [Value.int v249, Value.int v250, Value.int v251]) (rest := [Value.int r247]) rfl rfl (by decide) (fun r hr => by cases hr; rfl) (c_X12_item C.2.2.2.2.2.2.2.2.2 G.2.1 v249 v250 v251 M248) cy_X12_item lk_RL_153 im_X12_item se_X12_item (by decide) (by decide) (by show c + 0 ≤ 600000; omega) (by show s + 0 ≤ 7302250; omega) rfl rfl (Nat.le_of_ble_eq_true rfl) (k_dg dt_L_law_21 23 1249 (.invokevirtual 153) 3 rfl) (fun r252 M253 => ?_)
          show Sm Z G _ _ (c, s) _ [(0, Value.ref b), (1, k_ra Z 0), (2, k_ra Z 76), (3, Value.int l3)] [Value.int r252, Value.int r247] _ _
          refine x_icmp_eq C (tgt := 1448) (k_dg dt_L_law_21 24 1252 (.if_icmp .eq 196) 3 rfl) (by decide) (fun _ => ?_) (fun _ => ?_)
          · refine x_iinc C (v := 6) (lv' := [(3, Value.int (l3 + 6)), (0, Value.ref b), (1, k_ra Z 0), (2, k_ra Z 76)]) (k_dg dt_L_law_25 16 1448 (.iinc 3 6) 3 rfl) 3 rfl (by decide) (by decide) rfl ?_
            refine x_goto C (tgt := 18) (k_dg dt_L_law_25 17 1451 (.goto (-1433)) 3 rfl) (by decide) ?_
            refine x_lv [1, 2, 3, 0] rfl ?_
            exact ih (c) (s) (by omega) (by omega) (l3 + 6) M253
          · refine x_iconst C (v := 0) (k_dg dt_L_law_21 25 1255 (.iconst 0) 1 rfl) (by decide) ?_
            exact x_zret C (by show c ≤ 600000; omega) (by show s ≤ 7302250; omega) rfl (k_dg dt_L_law_21 26 1256 (.ireturn) 1 rfl)
        | 33, _ =>
          show Sm Z G emI _ _ 1257 _ _ _ (rdX L xs (l3 + 1) (fun v254 => rdX L xs (l3 + 2) (fun v255 => rdX L xs (l3 + 3) (fun v256 => bd (f_X11_shelf v254 v255 v256 M) (fun r257 M258 => rdX L xs (l3 + 1) (fun v259 => rdX L xs (l3 + 2) (fun v260 => rdX L xs (l3 + 3) (fun v261 => bd (f_X12_shelf v259 v260 v261 M258) (fun r262 M263 => if r257 = r262 then f_law L xs n (l3 + 6) M263 else some (0, M263))))))))))
          refine x_aload_n C (k_dg dt_L_law_21 27 1257 (.aload_n 1) 1 rfl) 1 rfl ?_
          refine x_aload_n C (k_dg dt_L_law_21 28 1258 (.aload_n 0) 1 rfl) 0 rfl ?_
          refine x_iload_n C (k_dg dt_L_law_21 29 1259 (.iload_n 3) 1 rfl) 3 rfl ?_
          refine x_iconst C (v := 1) (k_dg dt_L_law_21 30 1260 (.iconst 1) 1 rfl) (by decide) ?_
          refine x_iadd C (k_dg dt_L_law_21 31 1261 (.iadd) 1 rfl) ?_
          refine x_xld C hX (k_dg dt_L_law_21 32 1262 (.iaload) 1 rfl) (fun v254 => ?_)
          refine x_aload_n C (k_dg dt_L_law_21 33 1263 (.aload_n 0) 1 rfl) 0 rfl ?_
          refine x_iload_n C (k_dg dt_L_law_21 34 1264 (.iload_n 3) 1 rfl) 3 rfl ?_
          refine x_iconst C (v := 2) (k_dg dt_L_law_21 35 1265 (.iconst 2) 1 rfl) (by decide) ?_
          refine x_iadd C (k_dg dt_L_law_21 36 1266 (.iadd) 1 rfl) ?_
          refine x_xld C hX (k_dg dt_L_law_21 37 1267 (.iaload) 1 rfl) (fun v255 => ?_)
          refine x_aload_n C (k_dg dt_L_law_21 38 1268 (.aload_n 0) 1 rfl) 0 rfl ?_
          refine x_iload_n C (k_dg dt_L_law_21 39 1269 (.iload_n 3) 1 rfl) 3 rfl ?_
          refine x_iconst C (v := 3) (k_dg dt_L_law_22 0 1270 (.iconst 3) 1 rfl) (by decide) ?_
          refine x_iadd C (k_dg dt_L_law_22 1 1271 (.iadd) 1 rfl) ?_
          refine x_xld C hX (k_dg dt_L_law_22 2 1272 (.iaload) 1 rfl) (fun v256 => ?_)
          refine x_callV C (a := 0) (kd := 9) (vs := [Value.int v254, Value.int v255, Value.int v256]) (rest := []) rfl rfl (by decide) (fun r hr => by cases hr; rfl) (c_X11_shelf C.2.2.2.2.2.2.2.2.2 G.2.1 v254 v255 v256 M) cy_X11_shelf lk_RL_154 im_X11_shelf se_X11_shelf (by decide) (by decide) (by show c + 0 ≤ 600000; omega) (by show s + 0 ≤ 7302250; omega) rfl rfl (Nat.le_of_ble_eq_true rfl) (k_dg dt_L_law_22 3 1273 (.invokevirtual 154) 3 rfl) (fun r257 M258 => ?_)
          show Sm Z G _ _ (c, s) _ [(0, Value.ref b), (1, k_ra Z 0), (2, k_ra Z 76), (3, Value.int l3)] [Value.int r257] _ _
          refine x_aload_n C (k_dg dt_L_law_22 4 1276 (.aload_n 2) 1 rfl) 2 rfl ?_
          refine x_aload_n C (k_dg dt_L_law_22 5 1277 (.aload_n 0) 1 rfl) 0 rfl ?_
          refine x_iload_n C (k_dg dt_L_law_22 6 1278 (.iload_n 3) 1 rfl) 3 rfl ?_
          refine x_iconst C (v := 1) (k_dg dt_L_law_22 7 1279 (.iconst 1) 1 rfl) (by decide) ?_
          refine x_iadd C (k_dg dt_L_law_22 8 1280 (.iadd) 1 rfl) ?_
          refine x_xld C hX (k_dg dt_L_law_22 9 1281 (.iaload) 1 rfl) (fun v259 => ?_)
          refine x_aload_n C (k_dg dt_L_law_22 10 1282 (.aload_n 0) 1 rfl) 0 rfl ?_
          refine x_iload_n C (k_dg dt_L_law_22 11 1283 (.iload_n 3) 1 rfl) 3 rfl ?_
          refine x_iconst C (v := 2) (k_dg dt_L_law_22 12 1284 (.iconst 2) 1 rfl) (by decide) ?_
          refine x_iadd C (k_dg dt_L_law_22 13 1285 (.iadd) 1 rfl) ?_
          refine x_xld C hX (k_dg dt_L_law_22 14 1286 (.iaload) 1 rfl) (fun v260 => ?_)
          refine x_aload_n C (k_dg dt_L_law_22 15 1287 (.aload_n 0) 1 rfl) 0 rfl ?_
          refine x_iload_n C (k_dg dt_L_law_22 16 1288 (.iload_n 3) 1 rfl) 3 rfl ?_
          refine x_iconst C (v := 3) (k_dg dt_L_law_22 17 1289 (.iconst 3) 1 rfl) (by decide) ?_
          refine x_iadd C (k_dg dt_L_law_22 18 1290 (.iadd) 1 rfl) ?_
          refine x_xld C hX (k_dg dt_L_law_22 19 1291 (.iaload) 1 rfl) (fun v261 => ?_)
          refine x_callV C (a := 76) (kd := 10) (vs := [Value.int v259, Value.int v260, Value.int v261]) (rest := [Value.int r257]) rfl rfl (by decide) (fun r hr => by cases hr; rfl) (c_X12_shelf C.2.2.2.2.2.2.2.2.2 G.2.1 v259 v260 v261 M258) cy_X12_shelf lk_RL_157 im_X12_shelf se_X12_shelf (by decide) (by decide) (by show c + 0 ≤ 600000; omega) (by show s + 0 ≤ 7302250; omega) rfl rfl (Nat.le_of_ble_eq_true rfl) (k_dg dt_L_law_22 20 1292 (.invokevirtual 157) 3 rfl) (fun r262 M263 => ?_)
          show Sm Z G _ _ (c, s) _ [(0, Value.ref b), (1, k_ra Z 0), (2, k_ra Z 76), (3, Value.int l3)] [Value.int r262, Value.int r257] _ _
          refine x_icmp_eq C (tgt := 1448) (k_dg dt_L_law_22 21 1295 (.if_icmp .eq 153) 3 rfl) (by decide) (fun _ => ?_) (fun _ => ?_)
          · refine x_iinc C (v := 6) (lv' := [(3, Value.int (l3 + 6)), (0, Value.ref b), (1, k_ra Z 0), (2, k_ra Z 76)]) (k_dg dt_L_law_25 16 1448 (.iinc 3 6) 3 rfl) 3 rfl (by decide) (by decide) rfl ?_
            refine x_goto C (tgt := 18) (k_dg dt_L_law_25 17 1451 (.goto (-1433)) 3 rfl) (by decide) ?_
            refine x_lv [1, 2, 3, 0] rfl ?_
            exact ih (c) (s) (by omega) (by omega) (l3 + 6) M263
          · refine x_iconst C (v := 0) (k_dg dt_L_law_22 22 1298 (.iconst 0) 1 rfl) (by decide) ?_
            exact x_zret C (by show c ≤ 600000; omega) (by show s ≤ 7302250; omega) rfl (k_dg dt_L_law_22 23 1299 (.ireturn) 1 rfl)
        | 34, _ =>
          show Sm Z G emI _ _ 1300 _ _ _ (rdX L xs (l3 + 1) (fun v264 => rdX L xs (l3 + 2) (fun v265 => bd (f_X11_taken v264 v265 M) (fun r266 M267 => rdX L xs (l3 + 1) (fun v268 => rdX L xs (l3 + 2) (fun v269 => bd (f_X12_taken v268 v269 M267) (fun r270 M271 => if r266 = r270 then f_law L xs n (l3 + 6) M271 else some (0, M271))))))))
          refine x_aload_n C (k_dg dt_L_law_22 24 1300 (.aload_n 1) 1 rfl) 1 rfl ?_
          refine x_aload_n C (k_dg dt_L_law_22 25 1301 (.aload_n 0) 1 rfl) 0 rfl ?_
          refine x_iload_n C (k_dg dt_L_law_22 26 1302 (.iload_n 3) 1 rfl) 3 rfl ?_
          refine x_iconst C (v := 1) (k_dg dt_L_law_22 27 1303 (.iconst 1) 1 rfl) (by decide) ?_
          refine x_iadd C (k_dg dt_L_law_22 28 1304 (.iadd) 1 rfl) ?_
          refine x_xld C hX (k_dg dt_L_law_22 29 1305 (.iaload) 1 rfl) (fun v264 => ?_)
          refine x_aload_n C (k_dg dt_L_law_22 30 1306 (.aload_n 0) 1 rfl) 0 rfl ?_
          refine x_iload_n C (k_dg dt_L_law_22 31 1307 (.iload_n 3) 1 rfl) 3 rfl ?_
          refine x_iconst C (v := 2) (k_dg dt_L_law_22 32 1308 (.iconst 2) 1 rfl) (by decide) ?_
          refine x_iadd C (k_dg dt_L_law_22 33 1309 (.iadd) 1 rfl) ?_
          refine x_xld C hX (k_dg dt_L_law_22 34 1310 (.iaload) 1 rfl) (fun v265 => ?_)
          refine x_callV C (a := 0) (kd := 9) (vs := [Value.int v264, Value.int v265]) (rest := []) rfl rfl (by decide) (fun r hr => by cases hr; rfl) (c_X11_taken C.2.2.2.2.2.2.2.2.2 G.2.1 v264 v265 M) cy_X11_taken lk_RL_158 im_X11_taken se_X11_taken (by decide) (by decide) (by show c + 0 ≤ 600000; omega) (by show s + 0 ≤ 7302250; omega) rfl rfl (Nat.le_of_ble_eq_true rfl) (k_dg dt_L_law_22 35 1311 (.invokevirtual 158) 3 rfl) (fun r266 M267 => ?_)
          show Sm Z G _ _ (c, s) _ [(0, Value.ref b), (1, k_ra Z 0), (2, k_ra Z 76), (3, Value.int l3)] [Value.int r266] _ _
          refine x_aload_n C (k_dg dt_L_law_22 36 1314 (.aload_n 2) 1 rfl) 2 rfl ?_
          refine x_aload_n C (k_dg dt_L_law_22 37 1315 (.aload_n 0) 1 rfl) 0 rfl ?_
          refine x_iload_n C (k_dg dt_L_law_22 38 1316 (.iload_n 3) 1 rfl) 3 rfl ?_
          refine x_iconst C (v := 1) (k_dg dt_L_law_22 39 1317 (.iconst 1) 1 rfl) (by decide) ?_
          refine x_iadd C (k_dg dt_L_law_23 0 1318 (.iadd) 1 rfl) ?_
          refine x_xld C hX (k_dg dt_L_law_23 1 1319 (.iaload) 1 rfl) (fun v268 => ?_)
          refine x_aload_n C (k_dg dt_L_law_23 2 1320 (.aload_n 0) 1 rfl) 0 rfl ?_
          refine x_iload_n C (k_dg dt_L_law_23 3 1321 (.iload_n 3) 1 rfl) 3 rfl ?_
          refine x_iconst C (v := 2) (k_dg dt_L_law_23 4 1322 (.iconst 2) 1 rfl) (by decide) ?_
          refine x_iadd C (k_dg dt_L_law_23 5 1323 (.iadd) 1 rfl) ?_
          refine x_xld C hX (k_dg dt_L_law_23 6 1324 (.iaload) 1 rfl) (fun v269 => ?_)
          refine x_callV C (a := 76) (kd := 10) (vs := [Value.int v268, Value.int v269]) (rest := [Value.int r266]) rfl rfl (by decide) (fun r hr => by cases hr; rfl) (c_X12_taken C.2.2.2.2.2.2.2.2.2 G.2.1 v268 v269 M267) cy_X12_taken lk_RL_161 im_X12_taken se_X12_taken (by decide) (by decide) (by show c + 0 ≤ 600000; omega) (by show s + 0 ≤ 7302250; omega) rfl rfl (Nat.le_of_ble_eq_true rfl) (k_dg dt_L_law_23 7 1325 (.invokevirtual 161) 3 rfl) (fun r270 M271 => ?_)
          show Sm Z G _ _ (c, s) _ [(0, Value.ref b), (1, k_ra Z 0), (2, k_ra Z 76), (3, Value.int l3)] [Value.int r270, Value.int r266] _ _
          refine x_icmp_eq C (tgt := 1448) (k_dg dt_L_law_23 8 1328 (.if_icmp .eq 120) 3 rfl) (by decide) (fun _ => ?_) (fun _ => ?_)
          · refine x_iinc C (v := 6) (lv' := [(3, Value.int (l3 + 6)), (0, Value.ref b), (1, k_ra Z 0), (2, k_ra Z 76)]) (k_dg dt_L_law_25 16 1448 (.iinc 3 6) 3 rfl) 3 rfl (by decide) (by decide) rfl ?_
            refine x_goto C (tgt := 18) (k_dg dt_L_law_25 17 1451 (.goto (-1433)) 3 rfl) (by decide) ?_
            refine x_lv [1, 2, 3, 0] rfl ?_
            exact ih (c) (s) (by omega) (by omega) (l3 + 6) M271
          · refine x_iconst C (v := 0) (k_dg dt_L_law_23 9 1331 (.iconst 0) 1 rfl) (by decide) ?_
            exact x_zret C (by show c ≤ 600000; omega) (by show s ≤ 7302250; omega) rfl (k_dg dt_L_law_23 10 1332 (.ireturn) 1 rfl)
        | 35, _ =>
          show Sm Z G emI _ _ 1333 _ _ _ (rdX L xs (l3 + 1) (fun v272 => rdX L xs (l3 + 2) (fun v273 => rdX L xs (l3 + 3) (fun v274 => bd (f_X11_act v272 v273 v274 M) (fun r275 M276 => rdX L xs (l3 + 1) (fun v277 => rdX L xs (l3 + 2) (fun v278 => rdX L xs (l3 + 3) (fun v279 => bd (f_X12_act v277 v278 v279 M276) (fun r280 M281 => if r275 = r280 then f_law L xs n (l3 + 6) M281 else some (0, M281))))))))))
          refine x_aload_n C (k_dg dt_L_law_23 11 1333 (.aload_n 1) 1 rfl) 1 rfl ?_
          refine x_aload_n C (k_dg dt_L_law_23 12 1334 (.aload_n 0) 1 rfl) 0 rfl ?_
          refine x_iload_n C (k_dg dt_L_law_23 13 1335 (.iload_n 3) 1 rfl) 3 rfl ?_
          refine x_iconst C (v := 1) (k_dg dt_L_law_23 14 1336 (.iconst 1) 1 rfl) (by decide) ?_
          refine x_iadd C (k_dg dt_L_law_23 15 1337 (.iadd) 1 rfl) ?_
          refine x_xld C hX (k_dg dt_L_law_23 16 1338 (.iaload) 1 rfl) (fun v272 => ?_)
          refine x_aload_n C (k_dg dt_L_law_23 17 1339 (.aload_n 0) 1 rfl) 0 rfl ?_
          refine x_iload_n C (k_dg dt_L_law_23 18 1340 (.iload_n 3) 1 rfl) 3 rfl ?_
          refine x_iconst C (v := 2) (k_dg dt_L_law_23 19 1341 (.iconst 2) 1 rfl) (by decide) ?_
          refine x_iadd C (k_dg dt_L_law_23 20 1342 (.iadd) 1 rfl) ?_
          refine x_xld C hX (k_dg dt_L_law_23 21 1343 (.iaload) 1 rfl) (fun v273 => ?_)
          refine x_aload_n C (k_dg dt_L_law_23 22 1344 (.aload_n 0) 1 rfl) 0 rfl ?_
          refine x_iload_n C (k_dg dt_L_law_23 23 1345 (.iload_n 3) 1 rfl) 3 rfl ?_
          refine x_iconst C (v := 3) (k_dg dt_L_law_23 24 1346 (.iconst 3) 1 rfl) (by decide) ?_
          refine x_iadd C (k_dg dt_L_law_23 25 1347 (.iadd) 1 rfl) ?_
          refine x_xld C hX (k_dg dt_L_law_23 26 1348 (.iaload) 1 rfl) (fun v274 => ?_)
          refine x_callV C (a := 0) (kd := 9) (vs := [Value.int v272, Value.int v273, Value.int v274]) (rest := []) rfl rfl (by decide) (fun r hr => by cases hr; rfl) (c_X11_act C.2.2.2.2.2.2.2.2.2 G.2.1 v272 v273 v274 M) cy_X11_act lk_RL_162 im_X11_act se_X11_act (by decide) (by decide) (by show c + 0 ≤ 600000; omega) (by show s + 0 ≤ 7302250; omega) rfl rfl (Nat.le_of_ble_eq_true rfl) (k_dg dt_L_law_23 27 1349 (.invokevirtual 162) 3 rfl) (fun r275 M276 => ?_)
          show Sm Z G _ _ (c, s) _ [(0, Value.ref b), (1, k_ra Z 0), (2, k_ra Z 76), (3, Value.int l3)] [Value.int r275] _ _
          refine x_aload_n C (k_dg dt_L_law_23 28 1352 (.aload_n 2) 1 rfl) 2 rfl ?_
          refine x_aload_n C (k_dg dt_L_law_23 29 1353 (.aload_n 0) 1 rfl) 0 rfl ?_
          refine x_iload_n C (k_dg dt_L_law_23 30 1354 (.iload_n 3) 1 rfl) 3 rfl ?_
          refine x_iconst C (v := 1) (k_dg dt_L_law_23 31 1355 (.iconst 1) 1 rfl) (by decide) ?_
          refine x_iadd C (k_dg dt_L_law_23 32 1356 (.iadd) 1 rfl) ?_
          refine x_xld C hX (k_dg dt_L_law_23 33 1357 (.iaload) 1 rfl) (fun v277 => ?_)
          refine x_aload_n C (k_dg dt_L_law_23 34 1358 (.aload_n 0) 1 rfl) 0 rfl ?_
          refine x_iload_n C (k_dg dt_L_law_23 35 1359 (.iload_n 3) 1 rfl) 3 rfl ?_
          refine x_iconst C (v := 2) (k_dg dt_L_law_23 36 1360 (.iconst 2) 1 rfl) (by decide) ?_
          refine x_iadd C (k_dg dt_L_law_23 37 1361 (.iadd) 1 rfl) ?_
          refine x_xld C hX (k_dg dt_L_law_23 38 1362 (.iaload) 1 rfl) (fun v278 => ?_)
          refine x_aload_n C (k_dg dt_L_law_23 39 1363 (.aload_n 0) 1 rfl) 0 rfl ?_
          refine x_iload_n C (k_dg dt_L_law_24 0 1364 (.iload_n 3) 1 rfl) 3 rfl ?_
          refine x_iconst C (v := 3) (k_dg dt_L_law_24 1 1365 (.iconst 3) 1 rfl) (by decide) ?_
          refine x_iadd C (k_dg dt_L_law_24 2 1366 (.iadd) 1 rfl) ?_
          refine x_xld C hX (k_dg dt_L_law_24 3 1367 (.iaload) 1 rfl) (fun v279 => ?_)
          refine x_callV C (a := 76) (kd := 10) (vs := [Value.int v277, Value.int v278, Value.int v279]) (rest := [Value.int r275]) rfl rfl (by decide) (fun r hr => by cases hr; rfl) (c_X12_act C.2.2.2.2.2.2.2.2.2 G.2.1 v277 v278 v279 M276) cy_X12_act lk_RL_165 im_X12_act se_X12_act (by decide) (by decide) (by show c + 0 ≤ 600000; omega) (by show s + 0 ≤ 7302250; omega) rfl rfl (Nat.le_of_ble_eq_true rfl) (k_dg dt_L_law_24 4 1368 (.invokevirtual 165) 3 rfl) (fun r280 M281 => ?_)
          show Sm Z G _ _ (c, s) _ [(0, Value.ref b), (1, k_ra Z 0), (2, k_ra Z 76), (3, Value.int l3)] [Value.int r280, Value.int r275] _ _
          refine x_icmp_eq C (tgt := 1448) (k_dg dt_L_law_24 5 1371 (.if_icmp .eq 77) 3 rfl) (by decide) (fun _ => ?_) (fun _ => ?_)
          · refine x_iinc C (v := 6) (lv' := [(3, Value.int (l3 + 6)), (0, Value.ref b), (1, k_ra Z 0), (2, k_ra Z 76)]) (k_dg dt_L_law_25 16 1448 (.iinc 3 6) 3 rfl) 3 rfl (by decide) (by decide) rfl ?_
            refine x_goto C (tgt := 18) (k_dg dt_L_law_25 17 1451 (.goto (-1433)) 3 rfl) (by decide) ?_
            refine x_lv [1, 2, 3, 0] rfl ?_
            exact ih (c) (s) (by omega) (by omega) (l3 + 6) M281
          · refine x_iconst C (v := 0) (k_dg dt_L_law_24 6 1374 (.iconst 0) 1 rfl) (by decide) ?_
            exact x_zret C (by show c ≤ 600000; omega) (by show s ≤ 7302250; omega) rfl (k_dg dt_L_law_24 7 1375 (.ireturn) 1 rfl)
        | 36, _ =>
          show Sm Z G emI _ _ 1376 _ _ _ (rdX L xs (l3 + 1) (fun v282 => bd (f_X11_trace v282 M) (fun r283 M284 => rdX L xs (l3 + 1) (fun v285 => bd (f_X12_trace v285 M284) (fun r286 M287 => if r283 = r286 then f_law L xs n (l3 + 6) M287 else some (0, M287))))))
          refine x_aload_n C (k_dg dt_L_law_24 8 1376 (.aload_n 1) 1 rfl) 1 rfl ?_
          refine x_aload_n C (k_dg dt_L_law_24 9 1377 (.aload_n 0) 1 rfl) 0 rfl ?_
          refine x_iload_n C (k_dg dt_L_law_24 10 1378 (.iload_n 3) 1 rfl) 3 rfl ?_
          refine x_iconst C (v := 1) (k_dg dt_L_law_24 11 1379 (.iconst 1) 1 rfl) (by decide) ?_
          refine x_iadd C (k_dg dt_L_law_24 12 1380 (.iadd) 1 rfl) ?_
          refine x_xld C hX (k_dg dt_L_law_24 13 1381 (.iaload) 1 rfl) (fun v282 => ?_)
          refine x_callV C (a := 0) (kd := 9) (vs := [Value.int v282]) (rest := []) rfl rfl (by decide) (fun r hr => by cases hr; rfl) (c_X11_trace C.2.2.2.2.2.2.2.2.2 G.2.1 v282 M) cy_X11_trace lk_RL_166 im_X11_trace se_X11_trace (by decide) (by decide) (by show c + 0 ≤ 600000; omega) (by show s + 0 ≤ 7302250; omega) rfl rfl (Nat.le_of_ble_eq_true rfl) (k_dg dt_L_law_24 14 1382 (.invokevirtual 166) 3 rfl) (fun r283 M284 => ?_)
          show Sm Z G _ _ (c, s) _ [(0, Value.ref b), (1, k_ra Z 0), (2, k_ra Z 76), (3, Value.int l3)] [Value.int r283] _ _
          refine x_aload_n C (k_dg dt_L_law_24 15 1385 (.aload_n 2) 1 rfl) 2 rfl ?_
          refine x_aload_n C (k_dg dt_L_law_24 16 1386 (.aload_n 0) 1 rfl) 0 rfl ?_
          refine x_iload_n C (k_dg dt_L_law_24 17 1387 (.iload_n 3) 1 rfl) 3 rfl ?_
          refine x_iconst C (v := 1) (k_dg dt_L_law_24 18 1388 (.iconst 1) 1 rfl) (by decide) ?_
          refine x_iadd C (k_dg dt_L_law_24 19 1389 (.iadd) 1 rfl) ?_
          refine x_xld C hX (k_dg dt_L_law_24 20 1390 (.iaload) 1 rfl) (fun v285 => ?_)
          refine x_callV C (a := 76) (kd := 10) (vs := [Value.int v285]) (rest := [Value.int r283]) rfl rfl (by decide) (fun r hr => by cases hr; rfl) (c_X12_trace C.2.2.2.2.2.2.2.2.2 G.2.1 v285 M284) cy_X12_trace lk_RL_169 im_X12_trace se_X12_trace (by decide) (by decide) (by show c + 0 ≤ 600000; omega) (by show s + 0 ≤ 7302250; omega) rfl rfl (Nat.le_of_ble_eq_true rfl) (k_dg dt_L_law_24 21 1391 (.invokevirtual 169) 3 rfl) (fun r286 M287 => ?_)
          show Sm Z G _ _ (c, s) _ [(0, Value.ref b), (1, k_ra Z 0), (2, k_ra Z 76), (3, Value.int l3)] [Value.int r286, Value.int r283] _ _
          refine x_icmp_eq C (tgt := 1448) (k_dg dt_L_law_24 22 1394 (.if_icmp .eq 54) 3 rfl) (by decide) (fun _ => ?_) (fun _ => ?_)
          · refine x_iinc C (v := 6) (lv' := [(3, Value.int (l3 + 6)), (0, Value.ref b), (1, k_ra Z 0), (2, k_ra Z 76)]) (k_dg dt_L_law_25 16 1448 (.iinc 3 6) 3 rfl) 3 rfl (by decide) (by decide) rfl ?_
            refine x_goto C (tgt := 18) (k_dg dt_L_law_25 17 1451 (.goto (-1433)) 3 rfl) (by decide) ?_
            refine x_lv [1, 2, 3, 0] rfl ?_
            exact ih (c) (s) (by omega) (by omega) (l3 + 6) M287
          · refine x_iconst C (v := 0) (k_dg dt_L_law_24 23 1397 (.iconst 0) 1 rfl) (by decide) ?_
            exact x_zret C (by show c ≤ 600000; omega) (by show s ≤ 7302250; omega) rfl (k_dg dt_L_law_24 24 1398 (.ireturn) 1 rfl)
        | 37, _ =>
          show Sm Z G emI _ _ 1399 _ _ _ (rdX L xs (l3 + 1) (fun v288 => bd (f_X11_many v288 M) (fun r289 M290 => rdX L xs (l3 + 1) (fun v291 => bd (f_X12_many v291 M290) (fun r292 M293 => if r289 = r292 then f_law L xs n (l3 + 6) M293 else some (0, M293))))))
          refine x_aload_n C (k_dg dt_L_law_24 25 1399 (.aload_n 1) 1 rfl) 1 rfl ?_
          refine x_aload_n C (k_dg dt_L_law_24 26 1400 (.aload_n 0) 1 rfl) 0 rfl ?_
          refine x_iload_n C (k_dg dt_L_law_24 27 1401 (.iload_n 3) 1 rfl) 3 rfl ?_
          refine x_iconst C (v := 1) (k_dg dt_L_law_24 28 1402 (.iconst 1) 1 rfl) (by decide) ?_
          refine x_iadd C (k_dg dt_L_law_24 29 1403 (.iadd) 1 rfl) ?_
          refine x_xld C hX (k_dg dt_L_law_24 30 1404 (.iaload) 1 rfl) (fun v288 => ?_)
          refine x_callV C (a := 0) (kd := 9) (vs := [Value.int v288]) (rest := []) rfl rfl (by decide) (fun r hr => by cases hr; rfl) (c_X11_many C.2.2.2.2.2.2.2.2.2 G.2.1 v288 M) cy_X11_many lk_RL_170 im_X11_many se_X11_many (by decide) (by decide) (by show c + 0 ≤ 600000; omega) (by show s + 0 ≤ 7302250; omega) rfl rfl (Nat.le_of_ble_eq_true rfl) (k_dg dt_L_law_24 31 1405 (.invokevirtual 170) 3 rfl) (fun r289 M290 => ?_)
          show Sm Z G _ _ (c, s) _ [(0, Value.ref b), (1, k_ra Z 0), (2, k_ra Z 76), (3, Value.int l3)] [Value.int r289] _ _
          refine x_aload_n C (k_dg dt_L_law_24 32 1408 (.aload_n 2) 1 rfl) 2 rfl ?_
          refine x_aload_n C (k_dg dt_L_law_24 33 1409 (.aload_n 0) 1 rfl) 0 rfl ?_
          refine x_iload_n C (k_dg dt_L_law_24 34 1410 (.iload_n 3) 1 rfl) 3 rfl ?_
          refine x_iconst C (v := 1) (k_dg dt_L_law_24 35 1411 (.iconst 1) 1 rfl) (by decide) ?_
          refine x_iadd C (k_dg dt_L_law_24 36 1412 (.iadd) 1 rfl) ?_
          refine x_xld C hX (k_dg dt_L_law_24 37 1413 (.iaload) 1 rfl) (fun v291 => ?_)
          refine x_callV C (a := 76) (kd := 10) (vs := [Value.int v291]) (rest := [Value.int r289]) rfl rfl (by decide) (fun r hr => by cases hr; rfl) (c_X12_many C.2.2.2.2.2.2.2.2.2 G.2.1 v291 M290) cy_X12_many lk_RL_173 im_X12_many se_X12_many (by decide) (by decide) (by show c + 0 ≤ 600000; omega) (by show s + 0 ≤ 7302250; omega) rfl rfl (Nat.le_of_ble_eq_true rfl) (k_dg dt_L_law_24 38 1414 (.invokevirtual 173) 3 rfl) (fun r292 M293 => ?_)
          show Sm Z G _ _ (c, s) _ [(0, Value.ref b), (1, k_ra Z 0), (2, k_ra Z 76), (3, Value.int l3)] [Value.int r292, Value.int r289] _ _
          refine x_icmp_eq C (tgt := 1448) (k_dg dt_L_law_24 39 1417 (.if_icmp .eq 31) 3 rfl) (by decide) (fun _ => ?_) (fun _ => ?_)
          · refine x_iinc C (v := 6) (lv' := [(3, Value.int (l3 + 6)), (0, Value.ref b), (1, k_ra Z 0), (2, k_ra Z 76)]) (k_dg dt_L_law_25 16 1448 (.iinc 3 6) 3 rfl) 3 rfl (by decide) (by decide) rfl ?_
            refine x_goto C (tgt := 18) (k_dg dt_L_law_25 17 1451 (.goto (-1433)) 3 rfl) (by decide) ?_
            refine x_lv [1, 2, 3, 0] rfl ?_
            exact ih (c) (s) (by omega) (by omega) (l3 + 6) M293
          · refine x_iconst C (v := 0) (k_dg dt_L_law_25 0 1420 (.iconst 0) 1 rfl) (by decide) ?_
            exact x_zret C (by show c ≤ 600000; omega) (by show s ≤ 7302250; omega) rfl (k_dg dt_L_law_25 1 1421 (.ireturn) 1 rfl)
        | 38, _ =>
          show Sm Z G emI _ _ 1422 _ _ _ (bd (f_X11_keep M) (fun r294 M295 => bd (f_X12_keep M295) (fun r296 M297 => if r294 = r296 then f_law L xs n (l3 + 6) M297 else some (0, M297))))
          refine x_aload_n C (k_dg dt_L_law_25 2 1422 (.aload_n 1) 1 rfl) 1 rfl ?_
          refine x_callV C (a := 0) (kd := 9) (vs := []) (rest := []) rfl rfl (by decide) (fun r hr => by cases hr; rfl) (c_X11_keep C.2.2.2.2.2.2.2.2.2 G.2.1 M) cy_X11_keep lk_RL_174 im_X11_keep se_X11_keep (by decide) (by decide) (by show c + 0 ≤ 600000; omega) (by show s + 0 ≤ 7302250; omega) rfl rfl (Nat.le_of_ble_eq_true rfl) (k_dg dt_L_law_25 3 1423 (.invokevirtual 174) 3 rfl) (fun r294 M295 => ?_)
          show Sm Z G _ _ (c, s) _ [(0, Value.ref b), (1, k_ra Z 0), (2, k_ra Z 76), (3, Value.int l3)] [Value.int r294] _ _
          refine x_aload_n C (k_dg dt_L_law_25 4 1426 (.aload_n 2) 1 rfl) 2 rfl ?_
          refine x_callV C (a := 76) (kd := 10) (vs := []) (rest := [Value.int r294]) rfl rfl (by decide) (fun r hr => by cases hr; rfl) (c_X12_keep C.2.2.2.2.2.2.2.2.2 G.2.1 M295) cy_X12_keep lk_RL_177 im_X12_keep se_X12_keep (by decide) (by decide) (by show c + 0 ≤ 600000; omega) (by show s + 0 ≤ 7302250; omega) rfl rfl (Nat.le_of_ble_eq_true rfl) (k_dg dt_L_law_25 5 1427 (.invokevirtual 177) 3 rfl) (fun r296 M297 => ?_)
          show Sm Z G _ _ (c, s) _ [(0, Value.ref b), (1, k_ra Z 0), (2, k_ra Z 76), (3, Value.int l3)] [Value.int r296, Value.int r294] _ _
          refine x_icmp_eq C (tgt := 1448) (k_dg dt_L_law_25 6 1430 (.if_icmp .eq 18) 3 rfl) (by decide) (fun _ => ?_) (fun _ => ?_)
          · refine x_iinc C (v := 6) (lv' := [(3, Value.int (l3 + 6)), (0, Value.ref b), (1, k_ra Z 0), (2, k_ra Z 76)]) (k_dg dt_L_law_25 16 1448 (.iinc 3 6) 3 rfl) 3 rfl (by decide) (by decide) rfl ?_
            refine x_goto C (tgt := 18) (k_dg dt_L_law_25 17 1451 (.goto (-1433)) 3 rfl) (by decide) ?_
            refine x_lv [1, 2, 3, 0] rfl ?_
            exact ih (c) (s) (by omega) (by omega) (l3 + 6) M297
          · refine x_iconst C (v := 0) (k_dg dt_L_law_25 7 1433 (.iconst 0) 1 rfl) (by decide) ?_
            exact x_zret C (by show c ≤ 600000; omega) (by show s ≤ 7302250; omega) rfl (k_dg dt_L_law_25 8 1434 (.ireturn) 1 rfl)
        | 39, _ =>
          show Sm Z G emI _ _ 1435 _ _ _ (bd (f_X11_again M) (fun r298 M299 => bd (f_X12_again M299) (fun r300 M301 => if r298 = r300 then f_law L xs n (l3 + 6) M301 else some (0, M301))))
          refine x_aload_n C (k_dg dt_L_law_25 9 1435 (.aload_n 1) 1 rfl) 1 rfl ?_
          refine x_callV C (a := 0) (kd := 9) (vs := []) (rest := []) rfl rfl (by decide) (fun r hr => by cases hr; rfl) (c_X11_again C.2.2.2.2.2.2.2.2.2 G.2.1 M) cy_X11_again lk_RL_178 im_X11_again se_X11_again (by decide) (by decide) (by show c + 0 ≤ 600000; omega) (by show s + 0 ≤ 7302250; omega) rfl rfl (Nat.le_of_ble_eq_true rfl) (k_dg dt_L_law_25 10 1436 (.invokevirtual 178) 3 rfl) (fun r298 M299 => ?_)
          show Sm Z G _ _ (c, s) _ [(0, Value.ref b), (1, k_ra Z 0), (2, k_ra Z 76), (3, Value.int l3)] [Value.int r298] _ _
          refine x_aload_n C (k_dg dt_L_law_25 11 1439 (.aload_n 2) 1 rfl) 2 rfl ?_
          refine x_callV C (a := 76) (kd := 10) (vs := []) (rest := [Value.int r298]) rfl rfl (by decide) (fun r hr => by cases hr; rfl) (c_X12_again C.2.2.2.2.2.2.2.2.2 G.2.1 M299) cy_X12_again lk_RL_181 im_X12_again se_X12_again (by decide) (by decide) (by show c + 0 ≤ 600000; omega) (by show s + 0 ≤ 7302250; omega) rfl rfl (Nat.le_of_ble_eq_true rfl) (k_dg dt_L_law_25 12 1440 (.invokevirtual 181) 3 rfl) (fun r300 M301 => ?_)
          show Sm Z G _ _ (c, s) _ [(0, Value.ref b), (1, k_ra Z 0), (2, k_ra Z 76), (3, Value.int l3)] [Value.int r300, Value.int r298] _ _
          refine x_icmp_eq C (tgt := 1448) (k_dg dt_L_law_25 13 1443 (.if_icmp .eq 5) 3 rfl) (by decide) (fun _ => ?_) (fun _ => ?_)
          · refine x_iinc C (v := 6) (lv' := [(3, Value.int (l3 + 6)), (0, Value.ref b), (1, k_ra Z 0), (2, k_ra Z 76)]) (k_dg dt_L_law_25 16 1448 (.iinc 3 6) 3 rfl) 3 rfl (by decide) (by decide) rfl ?_
            refine x_goto C (tgt := 18) (k_dg dt_L_law_25 17 1451 (.goto (-1433)) 3 rfl) (by decide) ?_
            refine x_lv [1, 2, 3, 0] rfl ?_
            exact ih (c) (s) (by omega) (by omega) (l3 + 6) M301
          · refine x_iconst C (v := 0) (k_dg dt_L_law_25 14 1446 (.iconst 0) 1 rfl) (by decide) ?_
            exact x_zret C (by show c ≤ 600000; omega) (by show s ≤ 7302250; omega) rfl (k_dg dt_L_law_25 15 1447 (.ireturn) 1 rfl)
        | k + 40, h => exact absurd h (by omega)
      · refine x_iinc C (v := 6) (lv' := [(3, Value.int (l3 + 6)), (0, Value.ref b), (1, k_ra Z 0), (2, k_ra Z 76)]) (k_dg dt_L_law_25 16 1448 (.iinc 3 6) 3 rfl) 3 rfl (by decide) (by decide) rfl ?_
        refine x_goto C (tgt := 18) (k_dg dt_L_law_25 17 1451 (.goto (-1433)) 3 rfl) (by decide) ?_
        refine x_lv [1, 2, 3, 0] rfl ?_
        exact ih (c) (s) (by omega) (by omega) (l3 + 6) M
