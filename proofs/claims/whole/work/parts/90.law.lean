theorem qw376 : Cond.methodLink RL 13 yX7_feed ∈ wsT := wsT_of 376 (by decide +kernel) (by rfl)
theorem qw379 : Cond.code yX7_feed cX7_feed 2 (some .int) ∈ wsT := wsT_of 379 (by decide +kernel) (by rfl)
theorem qw377 : Cond.instanceMethod yX7_feed ∈ wsT := wsT_of 377 (by decide +kernel) (by rfl)
theorem qw378 : Cond.selects yX7_feed.cls yX7_feed yX7_feed ∈ wsT := wsT_of 378 (by decide +kernel) (by rfl)
theorem lkV_L_13 : lfV RL 13 mX7_feed 1 := ⟨⟨qw376, qw379, qw83, by decide +kernel, by decide +kernel, by decide +kernel⟩, qw377, qw378⟩
theorem qw976 : Cond.methodLink RL 17 yX8_feed ∈ wsT := wsT_of 976 (by decide +kernel) (by rfl)
theorem qw979 : Cond.code yX8_feed cX8_feed 2 (some .int) ∈ wsT := wsT_of 979 (by decide +kernel) (by rfl)
theorem qw977 : Cond.instanceMethod yX8_feed ∈ wsT := wsT_of 977 (by decide +kernel) (by rfl)
theorem qw978 : Cond.selects yX8_feed.cls yX8_feed yX8_feed ∈ wsT := wsT_of 978 (by decide +kernel) (by rfl)
theorem lkV_L_17 : lfV RL 17 mX8_feed 1 := ⟨⟨qw976, qw979, qw93, by decide +kernel, by decide +kernel, by decide +kernel⟩, qw977, qw978⟩
theorem qw386 : Cond.methodLink RL 18 yX7_clock ∈ wsT := wsT_of 386 (by decide +kernel) (by rfl)
theorem qw389 : Cond.code yX7_clock cX7_clock 2 (some .int) ∈ wsT := wsT_of 389 (by decide +kernel) (by rfl)
theorem qw387 : Cond.instanceMethod yX7_clock ∈ wsT := wsT_of 387 (by decide +kernel) (by rfl)
theorem qw388 : Cond.selects yX7_clock.cls yX7_clock yX7_clock ∈ wsT := wsT_of 388 (by decide +kernel) (by rfl)
theorem lkV_L_18 : lfV RL 18 mX7_clock 0 := ⟨⟨qw386, qw389, qw83, by decide +kernel, by decide +kernel, by decide +kernel⟩, qw387, qw388⟩
theorem qw986 : Cond.methodLink RL 22 yX8_clock ∈ wsT := wsT_of 986 (by decide +kernel) (by rfl)
theorem qw989 : Cond.code yX8_clock cX8_clock 2 (some .int) ∈ wsT := wsT_of 989 (by decide +kernel) (by rfl)
theorem qw987 : Cond.instanceMethod yX8_clock ∈ wsT := wsT_of 987 (by decide +kernel) (by rfl)
theorem qw988 : Cond.selects yX8_clock.cls yX8_clock yX8_clock ∈ wsT := wsT_of 988 (by decide +kernel) (by rfl)
theorem lkV_L_22 : lfV RL 22 mX8_clock 0 := ⟨⟨qw986, qw989, qw93, by decide +kernel, by decide +kernel, by decide +kernel⟩, qw987, qw988⟩
theorem qw512 : Cond.methodLink RL 23 yX7_fault ∈ wsT := wsT_of 512 (by decide +kernel) (by rfl)
theorem qw515 : Cond.code yX7_fault cX7_fault 1 (some .int) ∈ wsT := wsT_of 515 (by decide +kernel) (by rfl)
theorem qw513 : Cond.instanceMethod yX7_fault ∈ wsT := wsT_of 513 (by decide +kernel) (by rfl)
theorem qw514 : Cond.selects yX7_fault.cls yX7_fault yX7_fault ∈ wsT := wsT_of 514 (by decide +kernel) (by rfl)
theorem lkV_L_23 : lfV RL 23 mX7_fault 0 := ⟨⟨qw512, qw515, qw83, by decide +kernel, by decide +kernel, by decide +kernel⟩, qw513, qw514⟩
theorem qw1032 : Cond.methodLink RL 26 yX8_fault ∈ wsT := wsT_of 1032 (by decide +kernel) (by rfl)
theorem qw1035 : Cond.code yX8_fault cX8_fault 1 (some .int) ∈ wsT := wsT_of 1035 (by decide +kernel) (by rfl)
theorem qw1033 : Cond.instanceMethod yX8_fault ∈ wsT := wsT_of 1033 (by decide +kernel) (by rfl)
theorem qw1034 : Cond.selects yX8_fault.cls yX8_fault yX8_fault ∈ wsT := wsT_of 1034 (by decide +kernel) (by rfl)
theorem lkV_L_26 : lfV RL 26 mX8_fault 0 := ⟨⟨qw1032, qw1035, qw93, by decide +kernel, by decide +kernel, by decide +kernel⟩, qw1033, qw1034⟩
theorem qw516 : Cond.methodLink RL 27 yX7_told ∈ wsT := wsT_of 516 (by decide +kernel) (by rfl)
theorem qw519 : Cond.code yX7_told cX7_told 2 (some .int) ∈ wsT := wsT_of 519 (by decide +kernel) (by rfl)
theorem qw517 : Cond.instanceMethod yX7_told ∈ wsT := wsT_of 517 (by decide +kernel) (by rfl)
theorem qw518 : Cond.selects yX7_told.cls yX7_told yX7_told ∈ wsT := wsT_of 518 (by decide +kernel) (by rfl)
theorem lkV_L_27 : lfV RL 27 mX7_told 1 := ⟨⟨qw516, qw519, qw83, by decide +kernel, by decide +kernel, by decide +kernel⟩, qw517, qw518⟩
theorem qw1036 : Cond.methodLink RL 30 yX8_told ∈ wsT := wsT_of 1036 (by decide +kernel) (by rfl)
theorem qw1039 : Cond.code yX8_told cX8_told 2 (some .int) ∈ wsT := wsT_of 1039 (by decide +kernel) (by rfl)
theorem qw1037 : Cond.instanceMethod yX8_told ∈ wsT := wsT_of 1037 (by decide +kernel) (by rfl)
theorem qw1038 : Cond.selects yX8_told.cls yX8_told yX8_told ∈ wsT := wsT_of 1038 (by decide +kernel) (by rfl)
theorem lkV_L_30 : lfV RL 30 mX8_told 1 := ⟨⟨qw1036, qw1039, qw93, by decide +kernel, by decide +kernel, by decide +kernel⟩, qw1037, qw1038⟩
theorem qw543 : Cond.methodLink RL 31 yX7_wheel ∈ wsT := wsT_of 543 (by decide +kernel) (by rfl)
theorem qw546 : Cond.code yX7_wheel cX7_wheel 3 (some .int) ∈ wsT := wsT_of 546 (by decide +kernel) (by rfl)
theorem qw544 : Cond.instanceMethod yX7_wheel ∈ wsT := wsT_of 544 (by decide +kernel) (by rfl)
theorem qw545 : Cond.selects yX7_wheel.cls yX7_wheel yX7_wheel ∈ wsT := wsT_of 545 (by decide +kernel) (by rfl)
theorem lkV_L_31 : lfV RL 31 mX7_wheel 2 := ⟨⟨qw543, qw546, qw83, by decide +kernel, by decide +kernel, by decide +kernel⟩, qw544, qw545⟩
theorem qw1090 : Cond.methodLink RL 35 yX8_wheel ∈ wsT := wsT_of 1090 (by decide +kernel) (by rfl)
theorem qw1093 : Cond.code yX8_wheel cX8_wheel 3 (some .int) ∈ wsT := wsT_of 1093 (by decide +kernel) (by rfl)
theorem qw1091 : Cond.instanceMethod yX8_wheel ∈ wsT := wsT_of 1091 (by decide +kernel) (by rfl)
theorem qw1092 : Cond.selects yX8_wheel.cls yX8_wheel yX8_wheel ∈ wsT := wsT_of 1092 (by decide +kernel) (by rfl)
theorem lkV_L_35 : lfV RL 35 mX8_wheel 2 := ⟨⟨qw1090, qw1093, qw93, by decide +kernel, by decide +kernel, by decide +kernel⟩, qw1091, qw1092⟩
theorem qw552 : Cond.methodLink RL 36 yX7_link ∈ wsT := wsT_of 552 (by decide +kernel) (by rfl)
theorem qw555 : Cond.code yX7_link cX7_link 3 (some .int) ∈ wsT := wsT_of 555 (by decide +kernel) (by rfl)
theorem qw553 : Cond.instanceMethod yX7_link ∈ wsT := wsT_of 553 (by decide +kernel) (by rfl)
theorem qw554 : Cond.selects yX7_link.cls yX7_link yX7_link ∈ wsT := wsT_of 554 (by decide +kernel) (by rfl)
theorem lkV_L_36 : lfV RL 36 mX7_link 2 := ⟨⟨qw552, qw555, qw83, by decide +kernel, by decide +kernel, by decide +kernel⟩, qw553, qw554⟩
theorem qw1099 : Cond.methodLink RL 39 yX8_link ∈ wsT := wsT_of 1099 (by decide +kernel) (by rfl)
theorem qw1102 : Cond.code yX8_link cX8_link 3 (some .int) ∈ wsT := wsT_of 1102 (by decide +kernel) (by rfl)
theorem qw1100 : Cond.instanceMethod yX8_link ∈ wsT := wsT_of 1100 (by decide +kernel) (by rfl)
theorem qw1101 : Cond.selects yX8_link.cls yX8_link yX8_link ∈ wsT := wsT_of 1101 (by decide +kernel) (by rfl)
theorem lkV_L_39 : lfV RL 39 mX8_link 2 := ⟨⟨qw1099, qw1102, qw93, by decide +kernel, by decide +kernel, by decide +kernel⟩, qw1100, qw1101⟩
theorem qw564 : Cond.methodLink RL 40 yX7_feast ∈ wsT := wsT_of 564 (by decide +kernel) (by rfl)
theorem qw567 : Cond.code yX7_feast cX7_feast 3 (some .int) ∈ wsT := wsT_of 567 (by decide +kernel) (by rfl)
theorem qw565 : Cond.instanceMethod yX7_feast ∈ wsT := wsT_of 565 (by decide +kernel) (by rfl)
theorem qw566 : Cond.selects yX7_feast.cls yX7_feast yX7_feast ∈ wsT := wsT_of 566 (by decide +kernel) (by rfl)
theorem lkV_L_40 : lfV RL 40 mX7_feast 2 := ⟨⟨qw564, qw567, qw83, by decide +kernel, by decide +kernel, by decide +kernel⟩, qw565, qw566⟩
theorem qw1107 : Cond.methodLink RL 43 yX8_feast ∈ wsT := wsT_of 1107 (by decide +kernel) (by rfl)
theorem qw1110 : Cond.code yX8_feast cX8_feast 3 (some .int) ∈ wsT := wsT_of 1110 (by decide +kernel) (by rfl)
theorem qw1108 : Cond.instanceMethod yX8_feast ∈ wsT := wsT_of 1108 (by decide +kernel) (by rfl)
theorem qw1109 : Cond.selects yX8_feast.cls yX8_feast yX8_feast ∈ wsT := wsT_of 1109 (by decide +kernel) (by rfl)
theorem lkV_L_43 : lfV RL 43 mX8_feast 2 := ⟨⟨qw1107, qw1110, qw93, by decide +kernel, by decide +kernel, by decide +kernel⟩, qw1108, qw1109⟩
theorem qw572 : Cond.methodLink RL 44 yX7_stands ∈ wsT := wsT_of 572 (by decide +kernel) (by rfl)
theorem qw575 : Cond.code yX7_stands cX7_stands 3 (some .int) ∈ wsT := wsT_of 575 (by decide +kernel) (by rfl)
theorem qw573 : Cond.instanceMethod yX7_stands ∈ wsT := wsT_of 573 (by decide +kernel) (by rfl)
theorem qw574 : Cond.selects yX7_stands.cls yX7_stands yX7_stands ∈ wsT := wsT_of 574 (by decide +kernel) (by rfl)
theorem lkV_L_44 : lfV RL 44 mX7_stands 2 := ⟨⟨qw572, qw575, qw83, by decide +kernel, by decide +kernel, by decide +kernel⟩, qw573, qw574⟩
theorem qw1115 : Cond.methodLink RL 47 yX8_stands ∈ wsT := wsT_of 1115 (by decide +kernel) (by rfl)
theorem qw1118 : Cond.code yX8_stands cX8_stands 3 (some .int) ∈ wsT := wsT_of 1118 (by decide +kernel) (by rfl)
theorem qw1116 : Cond.instanceMethod yX8_stands ∈ wsT := wsT_of 1116 (by decide +kernel) (by rfl)
theorem qw1117 : Cond.selects yX8_stands.cls yX8_stands yX8_stands ∈ wsT := wsT_of 1117 (by decide +kernel) (by rfl)
theorem lkV_L_47 : lfV RL 47 mX8_stands 2 := ⟨⟨qw1115, qw1118, qw93, by decide +kernel, by decide +kernel, by decide +kernel⟩, qw1116, qw1117⟩
theorem qw577 : Cond.methodLink RL 48 yX7_days ∈ wsT := wsT_of 577 (by decide +kernel) (by rfl)
theorem qw580 : Cond.code yX7_days cX7_days 2 (some .int) ∈ wsT := wsT_of 580 (by decide +kernel) (by rfl)
theorem qw578 : Cond.instanceMethod yX7_days ∈ wsT := wsT_of 578 (by decide +kernel) (by rfl)
theorem qw579 : Cond.selects yX7_days.cls yX7_days yX7_days ∈ wsT := wsT_of 579 (by decide +kernel) (by rfl)
theorem lkV_L_48 : lfV RL 48 mX7_days 1 := ⟨⟨qw577, qw580, qw83, by decide +kernel, by decide +kernel, by decide +kernel⟩, qw578, qw579⟩
theorem qw1120 : Cond.methodLink RL 51 yX8_days ∈ wsT := wsT_of 1120 (by decide +kernel) (by rfl)
theorem qw1123 : Cond.code yX8_days cX8_days 2 (some .int) ∈ wsT := wsT_of 1123 (by decide +kernel) (by rfl)
theorem qw1121 : Cond.instanceMethod yX8_days ∈ wsT := wsT_of 1121 (by decide +kernel) (by rfl)
theorem qw1122 : Cond.selects yX8_days.cls yX8_days yX8_days ∈ wsT := wsT_of 1122 (by decide +kernel) (by rfl)
theorem lkV_L_51 : lfV RL 51 mX8_days 1 := ⟨⟨qw1120, qw1123, qw93, by decide +kernel, by decide +kernel, by decide +kernel⟩, qw1121, qw1122⟩
theorem qw604 : Cond.methodLink RL 57 yX7_slip ∈ wsT := wsT_of 604 (by decide +kernel) (by rfl)
theorem qw607 : Cond.code yX7_slip cX7_slip 3 (some .int) ∈ wsT := wsT_of 607 (by decide +kernel) (by rfl)
theorem qw605 : Cond.instanceMethod yX7_slip ∈ wsT := wsT_of 605 (by decide +kernel) (by rfl)
theorem qw606 : Cond.selects yX7_slip.cls yX7_slip yX7_slip ∈ wsT := wsT_of 606 (by decide +kernel) (by rfl)
theorem lkV_L_57 : lfV RL 57 mX7_slip 2 := ⟨⟨qw604, qw607, qw83, by decide +kernel, by decide +kernel, by decide +kernel⟩, qw605, qw606⟩
theorem qw1143 : Cond.methodLink RL 60 yX8_slip ∈ wsT := wsT_of 1143 (by decide +kernel) (by rfl)
theorem qw1146 : Cond.code yX8_slip cX8_slip 3 (some .int) ∈ wsT := wsT_of 1146 (by decide +kernel) (by rfl)
theorem qw1144 : Cond.instanceMethod yX8_slip ∈ wsT := wsT_of 1144 (by decide +kernel) (by rfl)
theorem qw1145 : Cond.selects yX8_slip.cls yX8_slip yX8_slip ∈ wsT := wsT_of 1145 (by decide +kernel) (by rfl)
theorem lkV_L_60 : lfV RL 60 mX8_slip 2 := ⟨⟨qw1143, qw1146, qw93, by decide +kernel, by decide +kernel, by decide +kernel⟩, qw1144, qw1145⟩
theorem qw612 : Cond.methodLink RL 61 yX7_drift ∈ wsT := wsT_of 612 (by decide +kernel) (by rfl)
theorem qw615 : Cond.code yX7_drift cX7_drift 3 (some .int) ∈ wsT := wsT_of 615 (by decide +kernel) (by rfl)
theorem qw613 : Cond.instanceMethod yX7_drift ∈ wsT := wsT_of 613 (by decide +kernel) (by rfl)
theorem qw614 : Cond.selects yX7_drift.cls yX7_drift yX7_drift ∈ wsT := wsT_of 614 (by decide +kernel) (by rfl)
theorem lkV_L_61 : lfV RL 61 mX7_drift 1 := ⟨⟨qw612, qw615, qw83, by decide +kernel, by decide +kernel, by decide +kernel⟩, qw613, qw614⟩
theorem qw1153 : Cond.methodLink RL 64 yX8_drift ∈ wsT := wsT_of 1153 (by decide +kernel) (by rfl)
theorem qw1156 : Cond.code yX8_drift cX8_drift 3 (some .int) ∈ wsT := wsT_of 1156 (by decide +kernel) (by rfl)
theorem qw1154 : Cond.instanceMethod yX8_drift ∈ wsT := wsT_of 1154 (by decide +kernel) (by rfl)
theorem qw1155 : Cond.selects yX8_drift.cls yX8_drift yX8_drift ∈ wsT := wsT_of 1155 (by decide +kernel) (by rfl)
theorem lkV_L_64 : lfV RL 64 mX8_drift 1 := ⟨⟨qw1153, qw1156, qw93, by decide +kernel, by decide +kernel, by decide +kernel⟩, qw1154, qw1155⟩
theorem qw623 : Cond.methodLink RL 65 yX7_undo ∈ wsT := wsT_of 623 (by decide +kernel) (by rfl)
theorem qw626 : Cond.code yX7_undo cX7_undo 2 (some .int) ∈ wsT := wsT_of 626 (by decide +kernel) (by rfl)
theorem qw624 : Cond.instanceMethod yX7_undo ∈ wsT := wsT_of 624 (by decide +kernel) (by rfl)
theorem qw625 : Cond.selects yX7_undo.cls yX7_undo yX7_undo ∈ wsT := wsT_of 625 (by decide +kernel) (by rfl)
theorem lkV_L_65 : lfV RL 65 mX7_undo 1 := ⟨⟨qw623, qw626, qw83, by decide +kernel, by decide +kernel, by decide +kernel⟩, qw624, qw625⟩
theorem qw1165 : Cond.methodLink RL 68 yX8_undo ∈ wsT := wsT_of 1165 (by decide +kernel) (by rfl)
theorem qw1168 : Cond.code yX8_undo cX8_undo 3 (some .int) ∈ wsT := wsT_of 1168 (by decide +kernel) (by rfl)
theorem qw1166 : Cond.instanceMethod yX8_undo ∈ wsT := wsT_of 1166 (by decide +kernel) (by rfl)
theorem qw1167 : Cond.selects yX8_undo.cls yX8_undo yX8_undo ∈ wsT := wsT_of 1167 (by decide +kernel) (by rfl)
theorem lkV_L_68 : lfV RL 68 mX8_undo 1 := ⟨⟨qw1165, qw1168, qw93, by decide +kernel, by decide +kernel, by decide +kernel⟩, qw1166, qw1167⟩
theorem qw633 : Cond.methodLink RL 69 yX7_next ∈ wsT := wsT_of 633 (by decide +kernel) (by rfl)
theorem qw636 : Cond.code yX7_next cX7_next 2 (some .int) ∈ wsT := wsT_of 636 (by decide +kernel) (by rfl)
theorem qw634 : Cond.instanceMethod yX7_next ∈ wsT := wsT_of 634 (by decide +kernel) (by rfl)
theorem qw635 : Cond.selects yX7_next.cls yX7_next yX7_next ∈ wsT := wsT_of 635 (by decide +kernel) (by rfl)
theorem lkV_L_69 : lfV RL 69 mX7_next 1 := ⟨⟨qw633, qw636, qw83, by decide +kernel, by decide +kernel, by decide +kernel⟩, qw634, qw635⟩
theorem qw1170 : Cond.methodLink RL 72 yX8_next ∈ wsT := wsT_of 1170 (by decide +kernel) (by rfl)
theorem qw1173 : Cond.code yX8_next cX8_next 3 (some .int) ∈ wsT := wsT_of 1173 (by decide +kernel) (by rfl)
theorem qw1171 : Cond.instanceMethod yX8_next ∈ wsT := wsT_of 1171 (by decide +kernel) (by rfl)
theorem qw1172 : Cond.selects yX8_next.cls yX8_next yX8_next ∈ wsT := wsT_of 1172 (by decide +kernel) (by rfl)
theorem lkV_L_72 : lfV RL 72 mX8_next 1 := ⟨⟨qw1170, qw1173, qw93, by decide +kernel, by decide +kernel, by decide +kernel⟩, qw1171, qw1172⟩
theorem qw659 : Cond.methodLink RL 73 yX7_together ∈ wsT := wsT_of 659 (by decide +kernel) (by rfl)
theorem qw662 : Cond.code yX7_together cX7_together 2 (some .int) ∈ wsT := wsT_of 662 (by decide +kernel) (by rfl)
theorem qw660 : Cond.instanceMethod yX7_together ∈ wsT := wsT_of 660 (by decide +kernel) (by rfl)
theorem qw661 : Cond.selects yX7_together.cls yX7_together yX7_together ∈ wsT := wsT_of 661 (by decide +kernel) (by rfl)
theorem lkV_L_73 : lfV RL 73 mX7_together 1 := ⟨⟨qw659, qw662, qw83, by decide +kernel, by decide +kernel, by decide +kernel⟩, qw660, qw661⟩
theorem qw1174 : Cond.methodLink RL 76 yX8_together ∈ wsT := wsT_of 1174 (by decide +kernel) (by rfl)
theorem qw1177 : Cond.code yX8_together cX8_together 3 (some .int) ∈ wsT := wsT_of 1177 (by decide +kernel) (by rfl)
theorem qw1175 : Cond.instanceMethod yX8_together ∈ wsT := wsT_of 1175 (by decide +kernel) (by rfl)
theorem qw1176 : Cond.selects yX8_together.cls yX8_together yX8_together ∈ wsT := wsT_of 1176 (by decide +kernel) (by rfl)
theorem lkV_L_76 : lfV RL 76 mX8_together 1 := ⟨⟨qw1174, qw1177, qw93, by decide +kernel, by decide +kernel, by decide +kernel⟩, qw1175, qw1176⟩
theorem qw666 : Cond.methodLink RL 77 yX7_again ∈ wsT := wsT_of 666 (by decide +kernel) (by rfl)
theorem qw669 : Cond.code yX7_again cX7_again 3 (some .int) ∈ wsT := wsT_of 669 (by decide +kernel) (by rfl)
theorem qw667 : Cond.instanceMethod yX7_again ∈ wsT := wsT_of 667 (by decide +kernel) (by rfl)
theorem qw668 : Cond.selects yX7_again.cls yX7_again yX7_again ∈ wsT := wsT_of 668 (by decide +kernel) (by rfl)
theorem lkV_L_77 : lfV RL 77 mX7_again 0 := ⟨⟨qw666, qw669, qw83, by decide +kernel, by decide +kernel, by decide +kernel⟩, qw667, qw668⟩
theorem qw1183 : Cond.methodLink RL 80 yX8_again ∈ wsT := wsT_of 1183 (by decide +kernel) (by rfl)
theorem qw1186 : Cond.code yX8_again cX8_again 8 (some .int) ∈ wsT := wsT_of 1186 (by decide +kernel) (by rfl)
theorem qw1184 : Cond.instanceMethod yX8_again ∈ wsT := wsT_of 1184 (by decide +kernel) (by rfl)
theorem qw1185 : Cond.selects yX8_again.cls yX8_again yX8_again ∈ wsT := wsT_of 1185 (by decide +kernel) (by rfl)
theorem lkV_L_80 : lfV RL 80 mX8_again 0 := ⟨⟨qw1183, qw1186, qw93, by decide +kernel, by decide +kernel, by decide +kernel⟩, qw1184, qw1185⟩
theorem qw670 : Cond.methodLink RL 81 yX7_added ∈ wsT := wsT_of 670 (by decide +kernel) (by rfl)
theorem qw673 : Cond.code yX7_added cX7_added 9 (some .int) ∈ wsT := wsT_of 673 (by decide +kernel) (by rfl)
theorem qw671 : Cond.instanceMethod yX7_added ∈ wsT := wsT_of 671 (by decide +kernel) (by rfl)
theorem qw672 : Cond.selects yX7_added.cls yX7_added yX7_added ∈ wsT := wsT_of 672 (by decide +kernel) (by rfl)
theorem lkV_L_81 : lfV RL 81 mX7_added 4 := ⟨⟨qw670, qw673, qw83, by decide +kernel, by decide +kernel, by decide +kernel⟩, qw671, qw672⟩
theorem qw1188 : Cond.methodLink RL 85 yX8_added ∈ wsT := wsT_of 1188 (by decide +kernel) (by rfl)
theorem qw1191 : Cond.code yX8_added cX8_added 9 (some .int) ∈ wsT := wsT_of 1191 (by decide +kernel) (by rfl)
theorem qw1189 : Cond.instanceMethod yX8_added ∈ wsT := wsT_of 1189 (by decide +kernel) (by rfl)
theorem qw1190 : Cond.selects yX8_added.cls yX8_added yX8_added ∈ wsT := wsT_of 1190 (by decide +kernel) (by rfl)
theorem lkV_L_85 : lfV RL 85 mX8_added 4 := ⟨⟨qw1188, qw1191, qw93, by decide +kernel, by decide +kernel, by decide +kernel⟩, qw1189, qw1190⟩
theorem qw683 : Cond.methodLink RL 86 yX7_alike ∈ wsT := wsT_of 683 (by decide +kernel) (by rfl)
theorem qw686 : Cond.code yX7_alike cX7_alike 3 (some .int) ∈ wsT := wsT_of 686 (by decide +kernel) (by rfl)
theorem qw684 : Cond.instanceMethod yX7_alike ∈ wsT := wsT_of 684 (by decide +kernel) (by rfl)
theorem qw685 : Cond.selects yX7_alike.cls yX7_alike yX7_alike ∈ wsT := wsT_of 685 (by decide +kernel) (by rfl)
theorem lkV_L_86 : lfV RL 86 mX7_alike 2 := ⟨⟨qw683, qw686, qw83, by decide +kernel, by decide +kernel, by decide +kernel⟩, qw684, qw685⟩
theorem qw1193 : Cond.methodLink RL 89 yX8_alike ∈ wsT := wsT_of 1193 (by decide +kernel) (by rfl)
theorem qw1196 : Cond.code yX8_alike cX8_alike 3 (some .int) ∈ wsT := wsT_of 1196 (by decide +kernel) (by rfl)
theorem qw1194 : Cond.instanceMethod yX8_alike ∈ wsT := wsT_of 1194 (by decide +kernel) (by rfl)
theorem qw1195 : Cond.selects yX8_alike.cls yX8_alike yX8_alike ∈ wsT := wsT_of 1195 (by decide +kernel) (by rfl)
theorem lkV_L_89 : lfV RL 89 mX8_alike 2 := ⟨⟨qw1193, qw1196, qw93, by decide +kernel, by decide +kernel, by decide +kernel⟩, qw1194, qw1195⟩
theorem qw695 : Cond.methodLink RL 90 yX7_idlers ∈ wsT := wsT_of 695 (by decide +kernel) (by rfl)
theorem qw698 : Cond.code yX7_idlers cX7_idlers 4 (some .int) ∈ wsT := wsT_of 698 (by decide +kernel) (by rfl)
theorem qw696 : Cond.instanceMethod yX7_idlers ∈ wsT := wsT_of 696 (by decide +kernel) (by rfl)
theorem qw697 : Cond.selects yX7_idlers.cls yX7_idlers yX7_idlers ∈ wsT := wsT_of 697 (by decide +kernel) (by rfl)
theorem lkV_L_90 : lfV RL 90 mX7_idlers 3 := ⟨⟨qw695, qw698, qw83, by decide +kernel, by decide +kernel, by decide +kernel⟩, qw696, qw697⟩
theorem qw1197 : Cond.methodLink RL 94 yX8_idlers ∈ wsT := wsT_of 1197 (by decide +kernel) (by rfl)
theorem qw1200 : Cond.code yX8_idlers cX8_idlers 7 (some .int) ∈ wsT := wsT_of 1200 (by decide +kernel) (by rfl)
theorem qw1198 : Cond.instanceMethod yX8_idlers ∈ wsT := wsT_of 1198 (by decide +kernel) (by rfl)
theorem qw1199 : Cond.selects yX8_idlers.cls yX8_idlers yX8_idlers ∈ wsT := wsT_of 1199 (by decide +kernel) (by rfl)
theorem lkV_L_94 : lfV RL 94 mX8_idlers 3 := ⟨⟨qw1197, qw1200, qw93, by decide +kernel, by decide +kernel, by decide +kernel⟩, qw1198, qw1199⟩
theorem qw717 : Cond.methodLink RL 95 yX7_free ∈ wsT := wsT_of 717 (by decide +kernel) (by rfl)
theorem qw720 : Cond.code yX7_free cX7_free 2 (some .int) ∈ wsT := wsT_of 720 (by decide +kernel) (by rfl)
theorem qw718 : Cond.instanceMethod yX7_free ∈ wsT := wsT_of 718 (by decide +kernel) (by rfl)
theorem qw719 : Cond.selects yX7_free.cls yX7_free yX7_free ∈ wsT := wsT_of 719 (by decide +kernel) (by rfl)
theorem lkV_L_95 : lfV RL 95 mX7_free 1 := ⟨⟨qw717, qw720, qw83, by decide +kernel, by decide +kernel, by decide +kernel⟩, qw718, qw719⟩
theorem qw1208 : Cond.methodLink RL 98 yX8_free ∈ wsT := wsT_of 1208 (by decide +kernel) (by rfl)
theorem qw1211 : Cond.code yX8_free cX8_free 3 (some .int) ∈ wsT := wsT_of 1211 (by decide +kernel) (by rfl)
theorem qw1209 : Cond.instanceMethod yX8_free ∈ wsT := wsT_of 1209 (by decide +kernel) (by rfl)
theorem qw1210 : Cond.selects yX8_free.cls yX8_free yX8_free ∈ wsT := wsT_of 1210 (by decide +kernel) (by rfl)
theorem lkV_L_98 : lfV RL 98 mX8_free 1 := ⟨⟨qw1208, qw1211, qw93, by decide +kernel, by decide +kernel, by decide +kernel⟩, qw1209, qw1210⟩
theorem qw729 : Cond.methodLink RL 99 yX7_rest ∈ wsT := wsT_of 729 (by decide +kernel) (by rfl)
theorem qw732 : Cond.code yX7_rest cX7_rest 3 (some .int) ∈ wsT := wsT_of 732 (by decide +kernel) (by rfl)
theorem qw730 : Cond.instanceMethod yX7_rest ∈ wsT := wsT_of 730 (by decide +kernel) (by rfl)
theorem qw731 : Cond.selects yX7_rest.cls yX7_rest yX7_rest ∈ wsT := wsT_of 731 (by decide +kernel) (by rfl)
theorem lkV_L_99 : lfV RL 99 mX7_rest 2 := ⟨⟨qw729, qw732, qw83, by decide +kernel, by decide +kernel, by decide +kernel⟩, qw730, qw731⟩
theorem qw1216 : Cond.methodLink RL 102 yX8_rest ∈ wsT := wsT_of 1216 (by decide +kernel) (by rfl)
theorem qw1219 : Cond.code yX8_rest cX8_rest 4 (some .int) ∈ wsT := wsT_of 1219 (by decide +kernel) (by rfl)
theorem qw1217 : Cond.instanceMethod yX8_rest ∈ wsT := wsT_of 1217 (by decide +kernel) (by rfl)
theorem qw1218 : Cond.selects yX8_rest.cls yX8_rest yX8_rest ∈ wsT := wsT_of 1218 (by decide +kernel) (by rfl)
theorem lkV_L_102 : lfV RL 102 mX8_rest 2 := ⟨⟨qw1216, qw1219, qw93, by decide +kernel, by decide +kernel, by decide +kernel⟩, qw1217, qw1218⟩
theorem qw733 : Cond.methodLink RL 103 yX7_wear ∈ wsT := wsT_of 733 (by decide +kernel) (by rfl)
theorem qw736 : Cond.code yX7_wear cX7_wear 3 (some .int) ∈ wsT := wsT_of 736 (by decide +kernel) (by rfl)
theorem qw734 : Cond.instanceMethod yX7_wear ∈ wsT := wsT_of 734 (by decide +kernel) (by rfl)
theorem qw735 : Cond.selects yX7_wear.cls yX7_wear yX7_wear ∈ wsT := wsT_of 735 (by decide +kernel) (by rfl)
theorem lkV_L_103 : lfV RL 103 mX7_wear 2 := ⟨⟨qw733, qw736, qw83, by decide +kernel, by decide +kernel, by decide +kernel⟩, qw734, qw735⟩
theorem qw1220 : Cond.methodLink RL 106 yX8_wear ∈ wsT := wsT_of 1220 (by decide +kernel) (by rfl)
theorem qw1223 : Cond.code yX8_wear cX8_wear 8 (some .int) ∈ wsT := wsT_of 1223 (by decide +kernel) (by rfl)
theorem qw1221 : Cond.instanceMethod yX8_wear ∈ wsT := wsT_of 1221 (by decide +kernel) (by rfl)
theorem qw1222 : Cond.selects yX8_wear.cls yX8_wear yX8_wear ∈ wsT := wsT_of 1222 (by decide +kernel) (by rfl)
theorem lkV_L_106 : lfV RL 106 mX8_wear 2 := ⟨⟨qw1220, qw1223, qw93, by decide +kernel, by decide +kernel, by decide +kernel⟩, qw1221, qw1222⟩
theorem qw745 : Cond.methodLink RL 107 yX7_slips ∈ wsT := wsT_of 745 (by decide +kernel) (by rfl)
theorem qw748 : Cond.code yX7_slips cX7_slips 3 (some .int) ∈ wsT := wsT_of 748 (by decide +kernel) (by rfl)
theorem qw746 : Cond.instanceMethod yX7_slips ∈ wsT := wsT_of 746 (by decide +kernel) (by rfl)
theorem qw747 : Cond.selects yX7_slips.cls yX7_slips yX7_slips ∈ wsT := wsT_of 747 (by decide +kernel) (by rfl)
theorem lkV_L_107 : lfV RL 107 mX7_slips 2 := ⟨⟨qw745, qw748, qw83, by decide +kernel, by decide +kernel, by decide +kernel⟩, qw746, qw747⟩
theorem qw1224 : Cond.methodLink RL 110 yX8_slips ∈ wsT := wsT_of 1224 (by decide +kernel) (by rfl)
theorem qw1227 : Cond.code yX8_slips cX8_slips 8 (some .int) ∈ wsT := wsT_of 1227 (by decide +kernel) (by rfl)
theorem qw1225 : Cond.instanceMethod yX8_slips ∈ wsT := wsT_of 1225 (by decide +kernel) (by rfl)
theorem qw1226 : Cond.selects yX8_slips.cls yX8_slips yX8_slips ∈ wsT := wsT_of 1226 (by decide +kernel) (by rfl)
theorem lkV_L_110 : lfV RL 110 mX8_slips 2 := ⟨⟨qw1224, qw1227, qw93, by decide +kernel, by decide +kernel, by decide +kernel⟩, qw1225, qw1226⟩
theorem qw771 : Cond.methodLink RL 111 yX7_hidden ∈ wsT := wsT_of 771 (by decide +kernel) (by rfl)
theorem qw774 : Cond.code yX7_hidden cX7_hidden 8 (some .int) ∈ wsT := wsT_of 774 (by decide +kernel) (by rfl)
theorem qw772 : Cond.instanceMethod yX7_hidden ∈ wsT := wsT_of 772 (by decide +kernel) (by rfl)
theorem qw773 : Cond.selects yX7_hidden.cls yX7_hidden yX7_hidden ∈ wsT := wsT_of 773 (by decide +kernel) (by rfl)
theorem lkV_L_111 : lfV RL 111 mX7_hidden 4 := ⟨⟨qw771, qw774, qw83, by decide +kernel, by decide +kernel, by decide +kernel⟩, qw772, qw773⟩
theorem qw1243 : Cond.methodLink RL 114 yX8_hidden ∈ wsT := wsT_of 1243 (by decide +kernel) (by rfl)
theorem qw1246 : Cond.code yX8_hidden cX8_hidden 9 (some .int) ∈ wsT := wsT_of 1246 (by decide +kernel) (by rfl)
theorem qw1244 : Cond.instanceMethod yX8_hidden ∈ wsT := wsT_of 1244 (by decide +kernel) (by rfl)
theorem qw1245 : Cond.selects yX8_hidden.cls yX8_hidden yX8_hidden ∈ wsT := wsT_of 1245 (by decide +kernel) (by rfl)
theorem lkV_L_114 : lfV RL 114 mX8_hidden 4 := ⟨⟨qw1243, qw1246, qw93, by decide +kernel, by decide +kernel, by decide +kernel⟩, qw1244, qw1245⟩
theorem qw780 : Cond.methodLink RL 115 yX7_stood ∈ wsT := wsT_of 780 (by decide +kernel) (by rfl)
theorem qw783 : Cond.code yX7_stood cX7_stood 4 (some .int) ∈ wsT := wsT_of 783 (by decide +kernel) (by rfl)
theorem qw781 : Cond.instanceMethod yX7_stood ∈ wsT := wsT_of 781 (by decide +kernel) (by rfl)
theorem qw782 : Cond.selects yX7_stood.cls yX7_stood yX7_stood ∈ wsT := wsT_of 782 (by decide +kernel) (by rfl)
theorem lkV_L_115 : lfV RL 115 mX7_stood 3 := ⟨⟨qw780, qw783, qw83, by decide +kernel, by decide +kernel, by decide +kernel⟩, qw781, qw782⟩
theorem qw1253 : Cond.methodLink RL 118 yX8_stood ∈ wsT := wsT_of 1253 (by decide +kernel) (by rfl)
theorem qw1256 : Cond.code yX8_stood cX8_stood 4 (some .int) ∈ wsT := wsT_of 1256 (by decide +kernel) (by rfl)
theorem qw1254 : Cond.instanceMethod yX8_stood ∈ wsT := wsT_of 1254 (by decide +kernel) (by rfl)
theorem qw1255 : Cond.selects yX8_stood.cls yX8_stood yX8_stood ∈ wsT := wsT_of 1255 (by decide +kernel) (by rfl)
theorem lkV_L_118 : lfV RL 118 mX8_stood 3 := ⟨⟨qw1253, qw1256, qw93, by decide +kernel, by decide +kernel, by decide +kernel⟩, qw1254, qw1255⟩
theorem qw789 : Cond.methodLink RL 119 yX7_teeth ∈ wsT := wsT_of 789 (by decide +kernel) (by rfl)
theorem qw792 : Cond.code yX7_teeth cX7_teeth 3 (some .int) ∈ wsT := wsT_of 792 (by decide +kernel) (by rfl)
theorem qw790 : Cond.instanceMethod yX7_teeth ∈ wsT := wsT_of 790 (by decide +kernel) (by rfl)
theorem qw791 : Cond.selects yX7_teeth.cls yX7_teeth yX7_teeth ∈ wsT := wsT_of 791 (by decide +kernel) (by rfl)
theorem lkV_L_119 : lfV RL 119 mX7_teeth 2 := ⟨⟨qw789, qw792, qw83, by decide +kernel, by decide +kernel, by decide +kernel⟩, qw790, qw791⟩
theorem qw1258 : Cond.methodLink RL 122 yX8_teeth ∈ wsT := wsT_of 1258 (by decide +kernel) (by rfl)
theorem lkV_L_122 : lfV RL 122 mX8_teeth 2 := ⟨⟨qw1258, qw1261, qw93, by decide +kernel, by decide +kernel, by decide +kernel⟩, qw1259, qw1260⟩
theorem qw805 : Cond.methodLink RL 123 yX7_look ∈ wsT := wsT_of 805 (by decide +kernel) (by rfl)
theorem qw808 : Cond.code yX7_look cX7_look 7 (some .int) ∈ wsT := wsT_of 808 (by decide +kernel) (by rfl)
theorem qw806 : Cond.instanceMethod yX7_look ∈ wsT := wsT_of 806 (by decide +kernel) (by rfl)
theorem qw807 : Cond.selects yX7_look.cls yX7_look yX7_look ∈ wsT := wsT_of 807 (by decide +kernel) (by rfl)
theorem lkV_L_123 : lfV RL 123 mX7_look 1 := ⟨⟨qw805, qw808, qw83, by decide +kernel, by decide +kernel, by decide +kernel⟩, qw806, qw807⟩
theorem qw1270 : Cond.methodLink RL 126 yX8_look ∈ wsT := wsT_of 1270 (by decide +kernel) (by rfl)
theorem qw1273 : Cond.code yX8_look cX8_look 8 (some .int) ∈ wsT := wsT_of 1273 (by decide +kernel) (by rfl)
theorem qw1271 : Cond.instanceMethod yX8_look ∈ wsT := wsT_of 1271 (by decide +kernel) (by rfl)
theorem qw1272 : Cond.selects yX8_look.cls yX8_look yX8_look ∈ wsT := wsT_of 1272 (by decide +kernel) (by rfl)
theorem lkV_L_126 : lfV RL 126 mX8_look 1 := ⟨⟨qw1270, qw1273, qw93, by decide +kernel, by decide +kernel, by decide +kernel⟩, qw1271, qw1272⟩
theorem qw814 : Cond.methodLink RL 127 yX7_write ∈ wsT := wsT_of 814 (by decide +kernel) (by rfl)
theorem qw817 : Cond.code yX7_write cX7_write 4 (some .int) ∈ wsT := wsT_of 817 (by decide +kernel) (by rfl)
theorem qw815 : Cond.instanceMethod yX7_write ∈ wsT := wsT_of 815 (by decide +kernel) (by rfl)
theorem qw816 : Cond.selects yX7_write.cls yX7_write yX7_write ∈ wsT := wsT_of 816 (by decide +kernel) (by rfl)
theorem lkV_L_127 : lfV RL 127 mX7_write 3 := ⟨⟨qw814, qw817, qw83, by decide +kernel, by decide +kernel, by decide +kernel⟩, qw815, qw816⟩
theorem qw1275 : Cond.methodLink RL 130 yX8_write ∈ wsT := wsT_of 1275 (by decide +kernel) (by rfl)
theorem qw1278 : Cond.code yX8_write cX8_write 4 (some .int) ∈ wsT := wsT_of 1278 (by decide +kernel) (by rfl)
theorem qw1276 : Cond.instanceMethod yX8_write ∈ wsT := wsT_of 1276 (by decide +kernel) (by rfl)
theorem qw1277 : Cond.selects yX8_write.cls yX8_write yX8_write ∈ wsT := wsT_of 1277 (by decide +kernel) (by rfl)
theorem lkV_L_130 : lfV RL 130 mX8_write 3 := ⟨⟨qw1275, qw1278, qw93, by decide +kernel, by decide +kernel, by decide +kernel⟩, qw1276, qw1277⟩
theorem qw818 : Cond.methodLink RL 131 yX7_judge ∈ wsT := wsT_of 818 (by decide +kernel) (by rfl)
theorem qw821 : Cond.code yX7_judge cX7_judge 2 (some .int) ∈ wsT := wsT_of 821 (by decide +kernel) (by rfl)
theorem qw819 : Cond.instanceMethod yX7_judge ∈ wsT := wsT_of 819 (by decide +kernel) (by rfl)
theorem qw820 : Cond.selects yX7_judge.cls yX7_judge yX7_judge ∈ wsT := wsT_of 820 (by decide +kernel) (by rfl)
theorem lkV_L_131 : lfV RL 131 mX7_judge 0 := ⟨⟨qw818, qw821, qw83, by decide +kernel, by decide +kernel, by decide +kernel⟩, qw819, qw820⟩
theorem qw1279 : Cond.methodLink RL 134 yX8_judge ∈ wsT := wsT_of 1279 (by decide +kernel) (by rfl)
theorem qw1282 : Cond.code yX8_judge cX8_judge 2 (some .int) ∈ wsT := wsT_of 1282 (by decide +kernel) (by rfl)
theorem qw1280 : Cond.instanceMethod yX8_judge ∈ wsT := wsT_of 1280 (by decide +kernel) (by rfl)
theorem qw1281 : Cond.selects yX8_judge.cls yX8_judge yX8_judge ∈ wsT := wsT_of 1281 (by decide +kernel) (by rfl)
theorem lkV_L_134 : lfV RL 134 mX8_judge 0 := ⟨⟨qw1279, qw1282, qw93, by decide +kernel, by decide +kernel, by decide +kernel⟩, qw1280, qw1281⟩
theorem qw822 : Cond.methodLink RL 135 yX7_tear ∈ wsT := wsT_of 822 (by decide +kernel) (by rfl)
theorem qw825 : Cond.code yX7_tear cX7_tear 2 (some .int) ∈ wsT := wsT_of 825 (by decide +kernel) (by rfl)
theorem qw823 : Cond.instanceMethod yX7_tear ∈ wsT := wsT_of 823 (by decide +kernel) (by rfl)
theorem qw824 : Cond.selects yX7_tear.cls yX7_tear yX7_tear ∈ wsT := wsT_of 824 (by decide +kernel) (by rfl)
theorem lkV_L_135 : lfV RL 135 mX7_tear 0 := ⟨⟨qw822, qw825, qw83, by decide +kernel, by decide +kernel, by decide +kernel⟩, qw823, qw824⟩
theorem qw1283 : Cond.methodLink RL 138 yX8_tear ∈ wsT := wsT_of 1283 (by decide +kernel) (by rfl)
theorem qw1286 : Cond.code yX8_tear cX8_tear 2 (some .int) ∈ wsT := wsT_of 1286 (by decide +kernel) (by rfl)
theorem qw1284 : Cond.instanceMethod yX8_tear ∈ wsT := wsT_of 1284 (by decide +kernel) (by rfl)
theorem qw1285 : Cond.selects yX8_tear.cls yX8_tear yX8_tear ∈ wsT := wsT_of 1285 (by decide +kernel) (by rfl)
theorem lkV_L_138 : lfV RL 138 mX8_tear 0 := ⟨⟨qw1283, qw1286, qw93, by decide +kernel, by decide +kernel, by decide +kernel⟩, qw1284, qw1285⟩
theorem qw826 : Cond.methodLink RL 139 yX7_seed ∈ wsT := wsT_of 826 (by decide +kernel) (by rfl)
theorem qw829 : Cond.code yX7_seed cX7_seed 3 (some .int) ∈ wsT := wsT_of 829 (by decide +kernel) (by rfl)
theorem qw827 : Cond.instanceMethod yX7_seed ∈ wsT := wsT_of 827 (by decide +kernel) (by rfl)
theorem qw828 : Cond.selects yX7_seed.cls yX7_seed yX7_seed ∈ wsT := wsT_of 828 (by decide +kernel) (by rfl)
theorem lkV_L_139 : lfV RL 139 mX7_seed 1 := ⟨⟨qw826, qw829, qw83, by decide +kernel, by decide +kernel, by decide +kernel⟩, qw827, qw828⟩
theorem qw1287 : Cond.methodLink RL 142 yX8_seed ∈ wsT := wsT_of 1287 (by decide +kernel) (by rfl)
theorem qw1290 : Cond.code yX8_seed cX8_seed 3 (some .int) ∈ wsT := wsT_of 1290 (by decide +kernel) (by rfl)
theorem qw1288 : Cond.instanceMethod yX8_seed ∈ wsT := wsT_of 1288 (by decide +kernel) (by rfl)
theorem qw1289 : Cond.selects yX8_seed.cls yX8_seed yX8_seed ∈ wsT := wsT_of 1289 (by decide +kernel) (by rfl)
theorem lkV_L_142 : lfV RL 142 mX8_seed 1 := ⟨⟨qw1287, qw1290, qw93, by decide +kernel, by decide +kernel, by decide +kernel⟩, qw1288, qw1289⟩
theorem qw830 : Cond.methodLink RL 143 yX7_keep ∈ wsT := wsT_of 830 (by decide +kernel) (by rfl)
theorem qw833 : Cond.code yX7_keep cX7_keep 2 (some .int) ∈ wsT := wsT_of 833 (by decide +kernel) (by rfl)
theorem qw831 : Cond.instanceMethod yX7_keep ∈ wsT := wsT_of 831 (by decide +kernel) (by rfl)
theorem qw832 : Cond.selects yX7_keep.cls yX7_keep yX7_keep ∈ wsT := wsT_of 832 (by decide +kernel) (by rfl)
theorem lkV_L_143 : lfV RL 143 mX7_keep 1 := ⟨⟨qw830, qw833, qw83, by decide +kernel, by decide +kernel, by decide +kernel⟩, qw831, qw832⟩
theorem qw1291 : Cond.methodLink RL 146 yX8_keep ∈ wsT := wsT_of 1291 (by decide +kernel) (by rfl)
theorem qw1294 : Cond.code yX8_keep cX8_keep 2 (some .int) ∈ wsT := wsT_of 1294 (by decide +kernel) (by rfl)
theorem qw1292 : Cond.instanceMethod yX8_keep ∈ wsT := wsT_of 1292 (by decide +kernel) (by rfl)
theorem qw1293 : Cond.selects yX8_keep.cls yX8_keep yX8_keep ∈ wsT := wsT_of 1293 (by decide +kernel) (by rfl)
theorem lkV_L_146 : lfV RL 146 mX8_keep 1 := ⟨⟨qw1291, qw1294, qw93, by decide +kernel, by decide +kernel, by decide +kernel⟩, qw1292, qw1293⟩
theorem qw835 : Cond.methodLink RL 147 yX7_goBack ∈ wsT := wsT_of 835 (by decide +kernel) (by rfl)
theorem qw838 : Cond.code yX7_goBack cX7_goBack 2 (some .int) ∈ wsT := wsT_of 838 (by decide +kernel) (by rfl)
theorem qw836 : Cond.instanceMethod yX7_goBack ∈ wsT := wsT_of 836 (by decide +kernel) (by rfl)
theorem qw837 : Cond.selects yX7_goBack.cls yX7_goBack yX7_goBack ∈ wsT := wsT_of 837 (by decide +kernel) (by rfl)
theorem lkV_L_147 : lfV RL 147 mX7_goBack 1 := ⟨⟨qw835, qw838, qw83, by decide +kernel, by decide +kernel, by decide +kernel⟩, qw836, qw837⟩
theorem qw1295 : Cond.methodLink RL 150 yX8_goBack ∈ wsT := wsT_of 1295 (by decide +kernel) (by rfl)
theorem qw1298 : Cond.code yX8_goBack cX8_goBack 2 (some .int) ∈ wsT := wsT_of 1298 (by decide +kernel) (by rfl)
theorem qw1296 : Cond.instanceMethod yX8_goBack ∈ wsT := wsT_of 1296 (by decide +kernel) (by rfl)
theorem qw1297 : Cond.selects yX8_goBack.cls yX8_goBack yX8_goBack ∈ wsT := wsT_of 1297 (by decide +kernel) (by rfl)
theorem lkV_L_150 : lfV RL 150 mX8_goBack 1 := ⟨⟨qw1295, qw1298, qw93, by decide +kernel, by decide +kernel, by decide +kernel⟩, qw1296, qw1297⟩
theorem qw596 : Cond.methodLink RL 52 yX7_cut ∈ wsT := wsT_of 596 (by decide +kernel) (by rfl)
theorem qw599 : Cond.code yX7_cut cX7_cut 4 (some .int) ∈ wsT := wsT_of 599 (by decide +kernel) (by rfl)
theorem qw597 : Cond.instanceMethod yX7_cut ∈ wsT := wsT_of 597 (by decide +kernel) (by rfl)
theorem qw598 : Cond.selects yX7_cut.cls yX7_cut yX7_cut ∈ wsT := wsT_of 598 (by decide +kernel) (by rfl)
theorem lkV_L_52 : lfV RL 52 mX7_cut 2 := ⟨⟨qw596, qw599, qw83, by decide +kernel, by decide +kernel, by decide +kernel⟩, qw597, qw598⟩
theorem qw1135 : Cond.methodLink RL 56 yX8_cut ∈ wsT := wsT_of 1135 (by decide +kernel) (by rfl)
theorem qw1138 : Cond.code yX8_cut cX8_cut 4 (some .int) ∈ wsT := wsT_of 1138 (by decide +kernel) (by rfl)
theorem qw1136 : Cond.instanceMethod yX8_cut ∈ wsT := wsT_of 1136 (by decide +kernel) (by rfl)
theorem qw1137 : Cond.selects yX8_cut.cls yX8_cut yX8_cut ∈ wsT := wsT_of 1137 (by decide +kernel) (by rfl)
theorem lkV_L_56 : lfV RL 56 mX8_cut 2 := ⟨⟨qw1135, qw1138, qw93, by decide +kernel, by decide +kernel, by decide +kernel⟩, qw1136, qw1137⟩
set_option maxHeartbeats 8000000 in
set_option maxRecDepth 100000 in
theorem bL_law_18 {G : Gm} {Φ : Fr} {S : List Sh} {μ : Mem} {n : Nat} {xs : Nat → Int32} (hΦ : St G Φ cL_law RL 4 11 424 600000 7302250) (hR : RtL G Φ) (hn : n ≤ 2147483647) (hS : Sx G Φ n xs) {x0 x1 x2 x3 : Int} (h : R32 x3 ∧ (R32 ((n : Int) - 5) ∧ ((((n : Int) - 5) < x3 → True) ∧ (¬ (((n : Int) - 5) < x3) → 0 ≤ x3 ∧ (x3 < (n : Int) ∧ (R32 (mand ((xs (Int.toNat x3)).toInt) 63) ∧ ((((mand ((xs (Int.toNat x3)).toInt) 63) < 0 ∨ 32 < (mand ((xs (Int.toNat x3)).toInt) 63)) → Ex G Φ 4 18 [some (3, x0), some (2, x1), some (2, x2), some (0, (x3 + 5))] [] S μ 133 2036) ∧ ((mand ((xs (Int.toNat x3)).toInt) 63) = 0 → So S x1 (.inl 7) ∧ (0 ≤ (x3 + 1) ∧ ((x3 + 1) < (n : Int) ∧ (Ci G mX7_feed [(2, x1), (0, ((xs (Int.toNat (x3 + 1))).toInt))] S μ (fun r9 μ9 => So S x2 (.inl 8) ∧ (Ci G mX8_feed [(2, x2), (0, ((xs (Int.toNat (x3 + 1))).toInt))] S μ9 (fun r11 μ11 => R32 r9 ∧ (R32 r11 ∧ ((r9 = r11 → Ex G Φ 4 18 [some (3, x0), some (2, x1), some (2, x2), some (0, (x3 + 5))] [] S μ11 133 2036) ∧ (¬ (r9 = r11) → False)))))))))) ∧ ((mand ((xs (Int.toNat x3)).toInt) 63) = 1 → So S x1 (.inl 7) ∧ (Ci G mX7_clock [(2, x1)] S μ (fun r15 μ15 => So S x2 (.inl 8) ∧ (Ci G mX8_clock [(2, x2)] S μ15 (fun r17 μ17 => R32 r15 ∧ (R32 r17 ∧ ((r15 = r17 → Ex G Φ 4 18 [some (3, x0), some (2, x1), some (2, x2), some (0, (x3 + 5))] [] S μ17 133 2036) ∧ (¬ (r15 = r17) → False)))))))) ∧ ((mand ((xs (Int.toNat x3)).toInt) 63) = 2 → So S x1 (.inl 7) ∧ (Ci G mX7_fault [(2, x1)] S μ (fun r21 μ21 => So S x2 (.inl 8) ∧ (Ci G mX8_fault [(2, x2)] S μ21 (fun r23 μ23 => R32 r21 ∧ (R32 r23 ∧ ((r21 = r23 → Ex G Φ 4 18 [some (3, x0), some (2, x1), some (2, x2), some (0, (x3 + 5))] [] S μ23 133 2036) ∧ (¬ (r21 = r23) → False)))))))) ∧ ((mand ((xs (Int.toNat x3)).toInt) 63) = 3 → So S x1 (.inl 7) ∧ (0 ≤ (x3 + 1) ∧ ((x3 + 1) < (n : Int) ∧ (Ci G mX7_told [(2, x1), (0, ((xs (Int.toNat (x3 + 1))).toInt))] S μ (fun r29 μ29 => So S x2 (.inl 8) ∧ (Ci G mX8_told [(2, x2), (0, ((xs (Int.toNat (x3 + 1))).toInt))] S μ29 (fun r31 μ31 => R32 r29 ∧ (R32 r31 ∧ ((r29 = r31 → Ex G Φ 4 18 [some (3, x0), some (2, x1), some (2, x2), some (0, (x3 + 5))] [] S μ31 133 2036) ∧ (¬ (r29 = r31) → False)))))))))) ∧ ((mand ((xs (Int.toNat x3)).toInt) 63) = 4 → So S x1 (.inl 7) ∧ (0 ≤ (x3 + 1) ∧ ((x3 + 1) < (n : Int) ∧ (0 ≤ (x3 + 2) ∧ ((x3 + 2) < (n : Int) ∧ (Ci G mX7_wheel [(2, x1), (0, ((xs (Int.toNat (x3 + 1))).toInt)), (0, ((xs (Int.toNat (x3 + 2))).toInt))] S μ (fun r39 μ39 => So S x2 (.inl 8) ∧ (Ci G mX8_wheel [(2, x2), (0, ((xs (Int.toNat (x3 + 1))).toInt)), (0, ((xs (Int.toNat (x3 + 2))).toInt))] S μ39 (fun r41 μ41 => R32 r39 ∧ (R32 r41 ∧ ((r39 = r41 → Ex G Φ 4 18 [some (3, x0), some (2, x1), some (2, x2), some (0, (x3 + 5))] [] S μ41 133 2036) ∧ (¬ (r39 = r41) → False)))))))))))) ∧ ((mand ((xs (Int.toNat x3)).toInt) 63) = 5 → So S x1 (.inl 7) ∧ (0 ≤ (x3 + 1) ∧ ((x3 + 1) < (n : Int) ∧ (0 ≤ (x3 + 2) ∧ ((x3 + 2) < (n : Int) ∧ (Ci G mX7_link [(2, x1), (0, ((xs (Int.toNat (x3 + 1))).toInt)), (0, ((xs (Int.toNat (x3 + 2))).toInt))] S μ (fun r49 μ49 => So S x2 (.inl 8) ∧ (Ci G mX8_link [(2, x2), (0, ((xs (Int.toNat (x3 + 1))).toInt)), (0, ((xs (Int.toNat (x3 + 2))).toInt))] S μ49 (fun r51 μ51 => R32 r49 ∧ (R32 r51 ∧ ((r49 = r51 → Ex G Φ 4 18 [some (3, x0), some (2, x1), some (2, x2), some (0, (x3 + 5))] [] S μ51 133 2036) ∧ (¬ (r49 = r51) → False)))))))))))) ∧ ((mand ((xs (Int.toNat x3)).toInt) 63) = 6 → So S x1 (.inl 7) ∧ (0 ≤ (x3 + 1) ∧ ((x3 + 1) < (n : Int) ∧ (0 ≤ (x3 + 2) ∧ ((x3 + 2) < (n : Int) ∧ (Ci G mX7_feast [(2, x1), (0, ((xs (Int.toNat (x3 + 1))).toInt)), (0, ((xs (Int.toNat (x3 + 2))).toInt))] S μ (fun r59 μ59 => So S x2 (.inl 8) ∧ (Ci G mX8_feast [(2, x2), (0, ((xs (Int.toNat (x3 + 1))).toInt)), (0, ((xs (Int.toNat (x3 + 2))).toInt))] S μ59 (fun r61 μ61 => R32 r59 ∧ (R32 r61 ∧ ((r59 = r61 → Ex G Φ 4 18 [some (3, x0), some (2, x1), some (2, x2), some (0, (x3 + 5))] [] S μ61 133 2036) ∧ (¬ (r59 = r61) → False)))))))))))) ∧ ((mand ((xs (Int.toNat x3)).toInt) 63) = 7 → So S x1 (.inl 7) ∧ (0 ≤ (x3 + 1) ∧ ((x3 + 1) < (n : Int) ∧ (0 ≤ (x3 + 2) ∧ ((x3 + 2) < (n : Int) ∧ (Ci G mX7_stands [(2, x1), (0, ((xs (Int.toNat (x3 + 1))).toInt)), (0, ((xs (Int.toNat (x3 + 2))).toInt))] S μ (fun r69 μ69 => So S x2 (.inl 8) ∧ (Ci G mX8_stands [(2, x2), (0, ((xs (Int.toNat (x3 + 1))).toInt)), (0, ((xs (Int.toNat (x3 + 2))).toInt))] S μ69 (fun r71 μ71 => R32 r69 ∧ (R32 r71 ∧ ((r69 = r71 → Ex G Φ 4 18 [some (3, x0), some (2, x1), some (2, x2), some (0, (x3 + 5))] [] S μ71 133 2036) ∧ (¬ (r69 = r71) → False)))))))))))) ∧ ((mand ((xs (Int.toNat x3)).toInt) 63) = 8 → So S x1 (.inl 7) ∧ (0 ≤ (x3 + 1) ∧ ((x3 + 1) < (n : Int) ∧ (Ci G mX7_days [(2, x1), (0, ((xs (Int.toNat (x3 + 1))).toInt))] S μ (fun r77 μ77 => So S x2 (.inl 8) ∧ (Ci G mX8_days [(2, x2), (0, ((xs (Int.toNat (x3 + 1))).toInt))] S μ77 (fun r79 μ79 => R32 r77 ∧ (R32 r79 ∧ ((r77 = r79 → Ex G Φ 4 18 [some (3, x0), some (2, x1), some (2, x2), some (0, (x3 + 5))] [] S μ79 133 2036) ∧ (¬ (r77 = r79) → False)))))))))) ∧ ((mand ((xs (Int.toNat x3)).toInt) 63) = 9 → So S x1 (.inl 7) ∧ (0 ≤ (x3 + 1) ∧ ((x3 + 1) < (n : Int) ∧ (0 ≤ (x3 + 2) ∧ ((x3 + 2) < (n : Int) ∧ (R32 ((xs (Int.toNat (x3 + 2))).toInt) ∧ ((((xs (Int.toNat (x3 + 2))).toInt) = 0 → Ex G Φ 4 426 [some (3, x0), some (2, x1), some (2, x2), some (0, x3)] [(0, 0), (0, ((xs (Int.toNat (x3 + 1))).toInt)), (2, x1)] S μ 133 2036) ∧ (¬ (((xs (Int.toNat (x3 + 2))).toInt) = 0) → Ex G Φ 4 426 [some (3, x0), some (2, x1), some (2, x2), some (0, x3)] [(0, 1), (0, ((xs (Int.toNat (x3 + 1))).toInt)), (2, x1)] S μ 133 2036)))))))) ∧ ((mand ((xs (Int.toNat x3)).toInt) 63) = 10 → So S x1 (.inl 7) ∧ (0 ≤ (x3 + 1) ∧ ((x3 + 1) < (n : Int) ∧ (0 ≤ (x3 + 2) ∧ ((x3 + 2) < (n : Int) ∧ (Ci G mX7_slip [(2, x1), (0, ((xs (Int.toNat (x3 + 1))).toInt)), (0, ((xs (Int.toNat (x3 + 2))).toInt))] S μ (fun r93 μ93 => So S x2 (.inl 8) ∧ (Ci G mX8_slip [(2, x2), (0, ((xs (Int.toNat (x3 + 1))).toInt)), (0, ((xs (Int.toNat (x3 + 2))).toInt))] S μ93 (fun r95 μ95 => R32 r93 ∧ (R32 r95 ∧ ((r93 = r95 → Ex G Φ 4 18 [some (3, x0), some (2, x1), some (2, x2), some (0, (x3 + 5))] [] S μ95 133 2036) ∧ (¬ (r93 = r95) → False)))))))))))) ∧ ((mand ((xs (Int.toNat x3)).toInt) 63) = 11 → So S x1 (.inl 7) ∧ (0 ≤ (x3 + 1) ∧ ((x3 + 1) < (n : Int) ∧ (Ci G mX7_drift [(2, x1), (0, ((xs (Int.toNat (x3 + 1))).toInt))] S μ (fun r101 μ101 => So S x2 (.inl 8) ∧ (Ci G mX8_drift [(2, x2), (0, ((xs (Int.toNat (x3 + 1))).toInt))] S μ101 (fun r103 μ103 => R32 r101 ∧ (R32 r103 ∧ ((r101 = r103 → Ex G Φ 4 18 [some (3, x0), some (2, x1), some (2, x2), some (0, (x3 + 5))] [] S μ103 133 2036) ∧ (¬ (r101 = r103) → False)))))))))) ∧ ((mand ((xs (Int.toNat x3)).toInt) 63) = 12 → So S x1 (.inl 7) ∧ (0 ≤ (x3 + 1) ∧ ((x3 + 1) < (n : Int) ∧ (Ci G mX7_undo [(2, x1), (0, ((xs (Int.toNat (x3 + 1))).toInt))] S μ (fun r109 μ109 => So S x2 (.inl 8) ∧ (Ci G mX8_undo [(2, x2), (0, ((xs (Int.toNat (x3 + 1))).toInt))] S μ109 (fun r111 μ111 => R32 r109 ∧ (R32 r111 ∧ ((r109 = r111 → Ex G Φ 4 18 [some (3, x0), some (2, x1), some (2, x2), some (0, (x3 + 5))] [] S μ111 133 2036) ∧ (¬ (r109 = r111) → False)))))))))) ∧ ((mand ((xs (Int.toNat x3)).toInt) 63) = 13 → So S x1 (.inl 7) ∧ (0 ≤ (x3 + 1) ∧ ((x3 + 1) < (n : Int) ∧ (Ci G mX7_next [(2, x1), (0, ((xs (Int.toNat (x3 + 1))).toInt))] S μ (fun r117 μ117 => So S x2 (.inl 8) ∧ (Ci G mX8_next [(2, x2), (0, ((xs (Int.toNat (x3 + 1))).toInt))] S μ117 (fun r119 μ119 => R32 r117 ∧ (R32 r119 ∧ ((r117 = r119 → Ex G Φ 4 18 [some (3, x0), some (2, x1), some (2, x2), some (0, (x3 + 5))] [] S μ119 133 2036) ∧ (¬ (r117 = r119) → False)))))))))) ∧ ((mand ((xs (Int.toNat x3)).toInt) 63) = 14 → So S x1 (.inl 7) ∧ (0 ≤ (x3 + 1) ∧ ((x3 + 1) < (n : Int) ∧ (Ci G mX7_together [(2, x1), (0, ((xs (Int.toNat (x3 + 1))).toInt))] S μ (fun r125 μ125 => So S x2 (.inl 8) ∧ (Ci G mX8_together [(2, x2), (0, ((xs (Int.toNat (x3 + 1))).toInt))] S μ125 (fun r127 μ127 => R32 r125 ∧ (R32 r127 ∧ ((r125 = r127 → Ex G Φ 4 18 [some (3, x0), some (2, x1), some (2, x2), some (0, (x3 + 5))] [] S μ127 133 2036) ∧ (¬ (r125 = r127) → False)))))))))) ∧ ((mand ((xs (Int.toNat x3)).toInt) 63) = 15 → So S x1 (.inl 7) ∧ (Ci G mX7_again [(2, x1)] S μ (fun r131 μ131 => So S x2 (.inl 8) ∧ (Ci G mX8_again [(2, x2)] S μ131 (fun r133 μ133 => R32 r131 ∧ (R32 r133 ∧ ((r131 = r133 → Ex G Φ 4 18 [some (3, x0), some (2, x1), some (2, x2), some (0, (x3 + 5))] [] S μ133 133 2036) ∧ (¬ (r131 = r133) → False)))))))) ∧ ((mand ((xs (Int.toNat x3)).toInt) 63) = 16 → So S x1 (.inl 7) ∧ (0 ≤ (x3 + 1) ∧ ((x3 + 1) < (n : Int) ∧ (0 ≤ (x3 + 2) ∧ ((x3 + 2) < (n : Int) ∧ (0 ≤ (x3 + 3) ∧ ((x3 + 3) < (n : Int) ∧ (0 ≤ (x3 + 4) ∧ ((x3 + 4) < (n : Int) ∧ (Ci G mX7_added [(2, x1), (0, ((xs (Int.toNat (x3 + 1))).toInt)), (0, ((xs (Int.toNat (x3 + 2))).toInt)), (0, ((xs (Int.toNat (x3 + 3))).toInt)), (0, ((xs (Int.toNat (x3 + 4))).toInt))] S μ (fun r145 μ145 => So S x2 (.inl 8) ∧ (Ci G mX8_added [(2, x2), (0, ((xs (Int.toNat (x3 + 1))).toInt)), (0, ((xs (Int.toNat (x3 + 2))).toInt)), (0, ((xs (Int.toNat (x3 + 3))).toInt)), (0, ((xs (Int.toNat (x3 + 4))).toInt))] S μ145 (fun r147 μ147 => R32 r145 ∧ (R32 r147 ∧ ((r145 = r147 → Ex G Φ 4 18 [some (3, x0), some (2, x1), some (2, x2), some (0, (x3 + 5))] [] S μ147 133 2036) ∧ (¬ (r145 = r147) → False)))))))))))))))) ∧ ((mand ((xs (Int.toNat x3)).toInt) 63) = 17 → So S x1 (.inl 7) ∧ (0 ≤ (x3 + 1) ∧ ((x3 + 1) < (n : Int) ∧ (0 ≤ (x3 + 2) ∧ ((x3 + 2) < (n : Int) ∧ (Ci G mX7_alike [(2, x1), (0, ((xs (Int.toNat (x3 + 1))).toInt)), (0, ((xs (Int.toNat (x3 + 2))).toInt))] S μ (fun r155 μ155 => So S x2 (.inl 8) ∧ (Ci G mX8_alike [(2, x2), (0, ((xs (Int.toNat (x3 + 1))).toInt)), (0, ((xs (Int.toNat (x3 + 2))).toInt))] S μ155 (fun r157 μ157 => R32 r155 ∧ (R32 r157 ∧ ((r155 = r157 → Ex G Φ 4 18 [some (3, x0), some (2, x1), some (2, x2), some (0, (x3 + 5))] [] S μ157 133 2036) ∧ (¬ (r155 = r157) → False)))))))))))) ∧ ((mand ((xs (Int.toNat x3)).toInt) 63) = 18 → So S x1 (.inl 7) ∧ (0 ≤ (x3 + 1) ∧ ((x3 + 1) < (n : Int) ∧ (0 ≤ (x3 + 2) ∧ ((x3 + 2) < (n : Int) ∧ (0 ≤ (x3 + 3) ∧ ((x3 + 3) < (n : Int) ∧ (Ci G mX7_idlers [(2, x1), (0, ((xs (Int.toNat (x3 + 1))).toInt)), (0, ((xs (Int.toNat (x3 + 2))).toInt)), (0, ((xs (Int.toNat (x3 + 3))).toInt))] S μ (fun r167 μ167 => So S x2 (.inl 8) ∧ (Ci G mX8_idlers [(2, x2), (0, ((xs (Int.toNat (x3 + 1))).toInt)), (0, ((xs (Int.toNat (x3 + 2))).toInt)), (0, ((xs (Int.toNat (x3 + 3))).toInt))] S μ167 (fun r169 μ169 => R32 r167 ∧ (R32 r169 ∧ ((r167 = r169 → Ex G Φ 4 18 [some (3, x0), some (2, x1), some (2, x2), some (0, (x3 + 5))] [] S μ169 133 2036) ∧ (¬ (r167 = r169) → False)))))))))))))) ∧ ((mand ((xs (Int.toNat x3)).toInt) 63) = 19 → So S x1 (.inl 7) ∧ (0 ≤ (x3 + 1) ∧ ((x3 + 1) < (n : Int) ∧ (Ci G mX7_free [(2, x1), (0, ((xs (Int.toNat (x3 + 1))).toInt))] S μ (fun r175 μ175 => So S x2 (.inl 8) ∧ (Ci G mX8_free [(2, x2), (0, ((xs (Int.toNat (x3 + 1))).toInt))] S μ175 (fun r177 μ177 => R32 r175 ∧ (R32 r177 ∧ ((r175 = r177 → Ex G Φ 4 18 [some (3, x0), some (2, x1), some (2, x2), some (0, (x3 + 5))] [] S μ177 133 2036) ∧ (¬ (r175 = r177) → False)))))))))) ∧ ((mand ((xs (Int.toNat x3)).toInt) 63) = 20 → So S x1 (.inl 7) ∧ (0 ≤ (x3 + 1) ∧ ((x3 + 1) < (n : Int) ∧ (0 ≤ (x3 + 2) ∧ ((x3 + 2) < (n : Int) ∧ (Ci G mX7_rest [(2, x1), (0, ((xs (Int.toNat (x3 + 1))).toInt)), (0, ((xs (Int.toNat (x3 + 2))).toInt))] S μ (fun r185 μ185 => So S x2 (.inl 8) ∧ (Ci G mX8_rest [(2, x2), (0, ((xs (Int.toNat (x3 + 1))).toInt)), (0, ((xs (Int.toNat (x3 + 2))).toInt))] S μ185 (fun r187 μ187 => R32 r185 ∧ (R32 r187 ∧ ((r185 = r187 → Ex G Φ 4 18 [some (3, x0), some (2, x1), some (2, x2), some (0, (x3 + 5))] [] S μ187 133 2036) ∧ (¬ (r185 = r187) → False)))))))))))) ∧ ((mand ((xs (Int.toNat x3)).toInt) 63) = 21 → So S x1 (.inl 7) ∧ (0 ≤ (x3 + 1) ∧ ((x3 + 1) < (n : Int) ∧ (0 ≤ (x3 + 2) ∧ ((x3 + 2) < (n : Int) ∧ (Ci G mX7_wear [(2, x1), (0, ((xs (Int.toNat (x3 + 1))).toInt)), (0, ((xs (Int.toNat (x3 + 2))).toInt))] S μ (fun r195 μ195 => So S x2 (.inl 8) ∧ (Ci G mX8_wear [(2, x2), (0, ((xs (Int.toNat (x3 + 1))).toInt)), (0, ((xs (Int.toNat (x3 + 2))).toInt))] S μ195 (fun r197 μ197 => R32 r195 ∧ (R32 r197 ∧ ((r195 = r197 → Ex G Φ 4 18 [some (3, x0), some (2, x1), some (2, x2), some (0, (x3 + 5))] [] S μ197 133 2036) ∧ (¬ (r195 = r197) → False)))))))))))) ∧ ((mand ((xs (Int.toNat x3)).toInt) 63) = 22 → So S x1 (.inl 7) ∧ (0 ≤ (x3 + 1) ∧ ((x3 + 1) < (n : Int) ∧ (0 ≤ (x3 + 2) ∧ ((x3 + 2) < (n : Int) ∧ (Ci G mX7_slips [(2, x1), (0, ((xs (Int.toNat (x3 + 1))).toInt)), (0, ((xs (Int.toNat (x3 + 2))).toInt))] S μ (fun r205 μ205 => So S x2 (.inl 8) ∧ (Ci G mX8_slips [(2, x2), (0, ((xs (Int.toNat (x3 + 1))).toInt)), (0, ((xs (Int.toNat (x3 + 2))).toInt))] S μ205 (fun r207 μ207 => R32 r205 ∧ (R32 r207 ∧ ((r205 = r207 → Ex G Φ 4 18 [some (3, x0), some (2, x1), some (2, x2), some (0, (x3 + 5))] [] S μ207 133 2036) ∧ (¬ (r205 = r207) → False)))))))))))) ∧ ((mand ((xs (Int.toNat x3)).toInt) 63) = 23 → So S x1 (.inl 7) ∧ (0 ≤ (x3 + 1) ∧ ((x3 + 1) < (n : Int) ∧ (0 ≤ (x3 + 2) ∧ ((x3 + 2) < (n : Int) ∧ (0 ≤ (x3 + 3) ∧ ((x3 + 3) < (n : Int) ∧ (0 ≤ (x3 + 4) ∧ ((x3 + 4) < (n : Int) ∧ (Ci G mX7_hidden [(2, x1), (0, ((xs (Int.toNat (x3 + 1))).toInt)), (0, ((xs (Int.toNat (x3 + 2))).toInt)), (0, ((xs (Int.toNat (x3 + 3))).toInt)), (0, ((xs (Int.toNat (x3 + 4))).toInt))] S μ (fun r219 μ219 => So S x2 (.inl 8) ∧ (Ci G mX8_hidden [(2, x2), (0, ((xs (Int.toNat (x3 + 1))).toInt)), (0, ((xs (Int.toNat (x3 + 2))).toInt)), (0, ((xs (Int.toNat (x3 + 3))).toInt)), (0, ((xs (Int.toNat (x3 + 4))).toInt))] S μ219 (fun r221 μ221 => R32 r219 ∧ (R32 r221 ∧ ((r219 = r221 → Ex G Φ 4 18 [some (3, x0), some (2, x1), some (2, x2), some (0, (x3 + 5))] [] S μ221 133 2036) ∧ (¬ (r219 = r221) → False)))))))))))))))) ∧ ((mand ((xs (Int.toNat x3)).toInt) 63) = 24 → So S x1 (.inl 7) ∧ (0 ≤ (x3 + 1) ∧ ((x3 + 1) < (n : Int) ∧ (0 ≤ (x3 + 2) ∧ ((x3 + 2) < (n : Int) ∧ (0 ≤ (x3 + 3) ∧ ((x3 + 3) < (n : Int) ∧ (Ci G mX7_stood [(2, x1), (0, ((xs (Int.toNat (x3 + 1))).toInt)), (0, ((xs (Int.toNat (x3 + 2))).toInt)), (0, ((xs (Int.toNat (x3 + 3))).toInt))] S μ (fun r231 μ231 => So S x2 (.inl 8) ∧ (Ci G mX8_stood [(2, x2), (0, ((xs (Int.toNat (x3 + 1))).toInt)), (0, ((xs (Int.toNat (x3 + 2))).toInt)), (0, ((xs (Int.toNat (x3 + 3))).toInt))] S μ231 (fun r233 μ233 => R32 r231 ∧ (R32 r233 ∧ ((r231 = r233 → Ex G Φ 4 18 [some (3, x0), some (2, x1), some (2, x2), some (0, (x3 + 5))] [] S μ233 133 2036) ∧ (¬ (r231 = r233) → False)))))))))))))) ∧ ((mand ((xs (Int.toNat x3)).toInt) 63) = 25 → So S x1 (.inl 7) ∧ (0 ≤ (x3 + 1) ∧ ((x3 + 1) < (n : Int) ∧ (0 ≤ (x3 + 2) ∧ ((x3 + 2) < (n : Int) ∧ (Ci G mX7_teeth [(2, x1), (0, ((xs (Int.toNat (x3 + 1))).toInt)), (0, ((xs (Int.toNat (x3 + 2))).toInt))] S μ (fun r241 μ241 => So S x2 (.inl 8) ∧ (Ci G mX8_teeth [(2, x2), (0, ((xs (Int.toNat (x3 + 1))).toInt)), (0, ((xs (Int.toNat (x3 + 2))).toInt))] S μ241 (fun r243 μ243 => R32 r241 ∧ (R32 r243 ∧ ((r241 = r243 → Ex G Φ 4 18 [some (3, x0), some (2, x1), some (2, x2), some (0, (x3 + 5))] [] S μ243 133 2036) ∧ (¬ (r241 = r243) → False)))))))))))) ∧ ((mand ((xs (Int.toNat x3)).toInt) 63) = 26 → So S x1 (.inl 7) ∧ (0 ≤ (x3 + 1) ∧ ((x3 + 1) < (n : Int) ∧ (Ci G mX7_look [(2, x1), (0, ((xs (Int.toNat (x3 + 1))).toInt))] S μ (fun r249 μ249 => So S x2 (.inl 8) ∧ (Ci G mX8_look [(2, x2), (0, ((xs (Int.toNat (x3 + 1))).toInt))] S μ249 (fun r251 μ251 => R32 r249 ∧ (R32 r251 ∧ ((r249 = r251 → Ex G Φ 4 18 [some (3, x0), some (2, x1), some (2, x2), some (0, (x3 + 5))] [] S μ251 133 2036) ∧ (¬ (r249 = r251) → False)))))))))) ∧ ((mand ((xs (Int.toNat x3)).toInt) 63) = 27 → So S x1 (.inl 7) ∧ (0 ≤ (x3 + 1) ∧ ((x3 + 1) < (n : Int) ∧ (0 ≤ (x3 + 2) ∧ ((x3 + 2) < (n : Int) ∧ (0 ≤ (x3 + 3) ∧ ((x3 + 3) < (n : Int) ∧ (Ci G mX7_write [(2, x1), (0, ((xs (Int.toNat (x3 + 1))).toInt)), (0, ((xs (Int.toNat (x3 + 2))).toInt)), (0, ((xs (Int.toNat (x3 + 3))).toInt))] S μ (fun r261 μ261 => So S x2 (.inl 8) ∧ (Ci G mX8_write [(2, x2), (0, ((xs (Int.toNat (x3 + 1))).toInt)), (0, ((xs (Int.toNat (x3 + 2))).toInt)), (0, ((xs (Int.toNat (x3 + 3))).toInt))] S μ261 (fun r263 μ263 => R32 r261 ∧ (R32 r263 ∧ ((r261 = r263 → Ex G Φ 4 18 [some (3, x0), some (2, x1), some (2, x2), some (0, (x3 + 5))] [] S μ263 133 2036) ∧ (¬ (r261 = r263) → False)))))))))))))) ∧ ((mand ((xs (Int.toNat x3)).toInt) 63) = 28 → So S x1 (.inl 7) ∧ (Ci G mX7_judge [(2, x1)] S μ (fun r267 μ267 => So S x2 (.inl 8) ∧ (Ci G mX8_judge [(2, x2)] S μ267 (fun r269 μ269 => R32 r267 ∧ (R32 r269 ∧ ((r267 = r269 → Ex G Φ 4 18 [some (3, x0), some (2, x1), some (2, x2), some (0, (x3 + 5))] [] S μ269 133 2036) ∧ (¬ (r267 = r269) → False)))))))) ∧ ((mand ((xs (Int.toNat x3)).toInt) 63) = 29 → So S x1 (.inl 7) ∧ (Ci G mX7_tear [(2, x1)] S μ (fun r273 μ273 => So S x2 (.inl 8) ∧ (Ci G mX8_tear [(2, x2)] S μ273 (fun r275 μ275 => R32 r273 ∧ (R32 r275 ∧ ((r273 = r275 → Ex G Φ 4 18 [some (3, x0), some (2, x1), some (2, x2), some (0, (x3 + 5))] [] S μ275 133 2036) ∧ (¬ (r273 = r275) → False)))))))) ∧ ((mand ((xs (Int.toNat x3)).toInt) 63) = 30 → So S x1 (.inl 7) ∧ (0 ≤ (x3 + 1) ∧ ((x3 + 1) < (n : Int) ∧ (Ci G mX7_seed [(2, x1), (0, ((xs (Int.toNat (x3 + 1))).toInt))] S μ (fun r281 μ281 => So S x2 (.inl 8) ∧ (Ci G mX8_seed [(2, x2), (0, ((xs (Int.toNat (x3 + 1))).toInt))] S μ281 (fun r283 μ283 => R32 r281 ∧ (R32 r283 ∧ ((r281 = r283 → Ex G Φ 4 18 [some (3, x0), some (2, x1), some (2, x2), some (0, (x3 + 5))] [] S μ283 133 2036) ∧ (¬ (r281 = r283) → False)))))))))) ∧ ((mand ((xs (Int.toNat x3)).toInt) 63) = 31 → So S x1 (.inl 7) ∧ (0 ≤ (x3 + 1) ∧ ((x3 + 1) < (n : Int) ∧ (Ci G mX7_keep [(2, x1), (0, ((xs (Int.toNat (x3 + 1))).toInt))] S μ (fun r289 μ289 => So S x2 (.inl 8) ∧ (Ci G mX8_keep [(2, x2), (0, ((xs (Int.toNat (x3 + 1))).toInt))] S μ289 (fun r291 μ291 => R32 r289 ∧ (R32 r291 ∧ ((r289 = r291 → Ex G Φ 4 18 [some (3, x0), some (2, x1), some (2, x2), some (0, (x3 + 5))] [] S μ291 133 2036) ∧ (¬ (r289 = r291) → False)))))))))) ∧ ((mand ((xs (Int.toNat x3)).toInt) 63) = 32 → So S x1 (.inl 7) ∧ (0 ≤ (x3 + 1) ∧ ((x3 + 1) < (n : Int) ∧ (Ci G mX7_goBack [(2, x1), (0, ((xs (Int.toNat (x3 + 1))).toInt))] S μ (fun r297 μ297 => So S x2 (.inl 8) ∧ (Ci G mX8_goBack [(2, x2), (0, ((xs (Int.toNat (x3 + 1))).toInt))] S μ297 (fun r299 μ299 => R32 r297 ∧ (R32 r299 ∧ ((r297 = r299 → Ex G Φ 4 18 [some (3, x0), some (2, x1), some (2, x2), some (0, (x3 + 5))] [] S μ299 133 2036) ∧ (¬ (r297 = r299) → False))))))))))))))))) : Ex G Φ 4 18 [some (3, x0), some (2, x1), some (2, x2), some (0, x3)] [] S μ 133 2036 := by
  refine ex_iload_n hΦ dL_law_18 rfl ?_
  refine ex_aload_s hΦ dL_law_19 rfl ?_
  refine ex_slen hΦ hS dL_law_20 ?_
  refine ex_iconst hΦ dL_law_21 ?_
  refine ex_isub hΦ dL_law_22 ?_
  obtain ⟨o1, h⟩ := h
  obtain ⟨o2, h⟩ := h
  refine ex_icmp_gt 1141 hΦ dL_law_23 (by decide) o1 o2 (fun c => ?_) (fun c => ?_)
  · have h := h.1 c
    refine ex_iconst hΦ dL_law_1141 ?_
    exact ex_lawret hΦ hR rfl (Nat.le_of_ble_eq_true rfl) (Nat.le_of_ble_eq_true rfl) ⟨rfl, rfl, rfl, rfl⟩ dL_law_1142
  · have h := h.2 c
    refine ex_aload_s hΦ dL_law_26 rfl ?_
    refine ex_iload_n hΦ dL_law_27 rfl ?_
    obtain ⟨o3, h⟩ := h
    obtain ⟨o4, h⟩ := h
    refine ex_sald hΦ hS o3 o4 hn dL_law_28 ?_
    refine ex_bipush hΦ dL_law_29 (by decide) ?_
    refine ex_iand hΦ dL_law_31 ?_
    obtain ⟨o5, h⟩ := h
    refine ex_table hΦ dL_law_32 o5 1135 (by decide) (fun c => ?_) (fun c1 c2 => ?_)
    · have h := h.1 c
      refine ex_iinc (L' := [some (3, x0), some (2, x1), some (2, x2), some (0, (x3 + 5))]) hΦ dL_law_1135 rfl (by decide) rfl ?_
      refine ex_goto 18 hΦ dL_law_1138 (by decide) ?_
      exact h
    · have h := h.2
      obtain ⟨k, hk, hx⟩ : ∃ k : Nat, k < 33 ∧ (mand ((xs (Int.toNat x3)).toInt) 63) = 0 + (k : Int) := ⟨((mand ((xs (Int.toNat x3)).toInt) 63) - 0).toNat, by omega, by omega⟩
      match k, hk with
      | 0, _ =>
        refine ⟨_, 180, by rw [hx]; rfl, by decide, ?_⟩
        have h := h.1 (by rw [hx]; rfl)
        obtain ⟨o6, h⟩ := h
        refine ex_aload_n hΦ dL_law_180 rfl o6.1 ?_
        refine ex_aload_s hΦ dL_law_181 rfl ?_
        refine ex_iload_n hΦ dL_law_182 rfl ?_
        refine ex_iconst hΦ dL_law_183 ?_
        refine ex_iadd hΦ dL_law_184 ?_
        obtain ⟨o7, h⟩ := h
        obtain ⟨o8, h⟩ := h
        refine ex_sald hΦ hS o7 o8 hn dL_law_185 ?_
        refine ex_callVi [(0, ((xs (Int.toNat (x3 + 1))).toInt))] [(0, ((xs (Int.toNat (x3 + 1))).toInt)), (2, x1)] hΦ lkV_L_13 ⟨by decide, by decide⟩ (Nat.le_of_ble_eq_true rfl) rfl (by decide) 7 (by decide) rfl o6 dL_law_186 rfl h (fun r9 μ9 h => ?_)
        obtain ⟨o10, h⟩ := h
        refine ex_aload_n hΦ dL_law_189 rfl o10.1 ?_
        refine ex_aload_s hΦ dL_law_190 rfl ?_
        refine ex_iload_n hΦ dL_law_191 rfl ?_
        refine ex_iconst hΦ dL_law_192 ?_
        refine ex_iadd hΦ dL_law_193 ?_
        refine ex_sald hΦ hS o7 o8 hn dL_law_194 ?_
        refine ex_callVi [(0, ((xs (Int.toNat (x3 + 1))).toInt))] [(0, ((xs (Int.toNat (x3 + 1))).toInt)), (2, x2), (0, r9)] hΦ lkV_L_17 ⟨by decide, by decide⟩ (Nat.le_of_ble_eq_true rfl) rfl (by decide) 8 (by decide) rfl o10 dL_law_195 rfl h (fun r11 μ11 h => ?_)
        obtain ⟨o12, h⟩ := h
        obtain ⟨o13, h⟩ := h
        refine ex_icmp_eq 1135 hΦ dL_law_198 (by decide) o12 o13 (fun c => ?_) (fun c => ?_)
        · have h := h.1 c
          refine ex_iinc (L' := [some (3, x0), some (2, x1), some (2, x2), some (0, (x3 + 5))]) hΦ dL_law_1135 rfl (by decide) rfl ?_
          refine ex_goto 18 hΦ dL_law_1138 (by decide) ?_
          exact h
        · have h := h.2 c
          refine ex_iconst hΦ dL_law_201 ?_
          exact h.elim
      | 1, _ =>
        refine ⟨_, 203, by rw [hx]; rfl, by decide, ?_⟩
        have h := h.2.1 (by rw [hx]; rfl)
        obtain ⟨o14, h⟩ := h
        refine ex_aload_n hΦ dL_law_203 rfl o14.1 ?_
        refine ex_callVi [] [(2, x1)] hΦ lkV_L_18 ⟨by decide, by decide⟩ (Nat.le_of_ble_eq_true rfl) rfl (by decide) 7 (by decide) rfl o14 dL_law_204 rfl h (fun r15 μ15 h => ?_)
        obtain ⟨o16, h⟩ := h
        refine ex_aload_n hΦ dL_law_207 rfl o16.1 ?_
        refine ex_callVi [] [(2, x2), (0, r15)] hΦ lkV_L_22 ⟨by decide, by decide⟩ (Nat.le_of_ble_eq_true rfl) rfl (by decide) 8 (by decide) rfl o16 dL_law_208 rfl h (fun r17 μ17 h => ?_)
        obtain ⟨o18, h⟩ := h
        obtain ⟨o19, h⟩ := h
        refine ex_icmp_eq 1135 hΦ dL_law_211 (by decide) o18 o19 (fun c => ?_) (fun c => ?_)
        · have h := h.1 c
          refine ex_iinc (L' := [some (3, x0), some (2, x1), some (2, x2), some (0, (x3 + 5))]) hΦ dL_law_1135 rfl (by decide) rfl ?_
          refine ex_goto 18 hΦ dL_law_1138 (by decide) ?_
          exact h
        · have h := h.2 c
          refine ex_iconst hΦ dL_law_214 ?_
          exact h.elim
      | 2, _ =>
        refine ⟨_, 216, by rw [hx]; rfl, by decide, ?_⟩
        have h := h.2.2.1 (by rw [hx]; rfl)
        obtain ⟨o20, h⟩ := h
        refine ex_aload_n hΦ dL_law_216 rfl o20.1 ?_
        refine ex_callVi [] [(2, x1)] hΦ lkV_L_23 ⟨by decide, by decide⟩ (Nat.le_of_ble_eq_true rfl) rfl (by decide) 7 (by decide) rfl o20 dL_law_217 rfl h (fun r21 μ21 h => ?_)
        obtain ⟨o22, h⟩ := h
        refine ex_aload_n hΦ dL_law_220 rfl o22.1 ?_
        refine ex_callVi [] [(2, x2), (0, r21)] hΦ lkV_L_26 ⟨by decide, by decide⟩ (Nat.le_of_ble_eq_true rfl) rfl (by decide) 8 (by decide) rfl o22 dL_law_221 rfl h (fun r23 μ23 h => ?_)
        obtain ⟨o24, h⟩ := h
        obtain ⟨o25, h⟩ := h
        refine ex_icmp_eq 1135 hΦ dL_law_224 (by decide) o24 o25 (fun c => ?_) (fun c => ?_)
        · have h := h.1 c
          refine ex_iinc (L' := [some (3, x0), some (2, x1), some (2, x2), some (0, (x3 + 5))]) hΦ dL_law_1135 rfl (by decide) rfl ?_
          refine ex_goto 18 hΦ dL_law_1138 (by decide) ?_
          exact h
        · have h := h.2 c
          refine ex_iconst hΦ dL_law_227 ?_
          exact h.elim
      | 3, _ =>
        refine ⟨_, 229, by rw [hx]; rfl, by decide, ?_⟩
        have h := h.2.2.2.1 (by rw [hx]; rfl)
        obtain ⟨o26, h⟩ := h
        refine ex_aload_n hΦ dL_law_229 rfl o26.1 ?_
        refine ex_aload_s hΦ dL_law_230 rfl ?_
        refine ex_iload_n hΦ dL_law_231 rfl ?_
        refine ex_iconst hΦ dL_law_232 ?_
        refine ex_iadd hΦ dL_law_233 ?_
        obtain ⟨o27, h⟩ := h
        obtain ⟨o28, h⟩ := h
        refine ex_sald hΦ hS o27 o28 hn dL_law_234 ?_
        refine ex_callVi [(0, ((xs (Int.toNat (x3 + 1))).toInt))] [(0, ((xs (Int.toNat (x3 + 1))).toInt)), (2, x1)] hΦ lkV_L_27 ⟨by decide, by decide⟩ (Nat.le_of_ble_eq_true rfl) rfl (by decide) 7 (by decide) rfl o26 dL_law_235 rfl h (fun r29 μ29 h => ?_)
        obtain ⟨o30, h⟩ := h
        refine ex_aload_n hΦ dL_law_238 rfl o30.1 ?_
        refine ex_aload_s hΦ dL_law_239 rfl ?_
        refine ex_iload_n hΦ dL_law_240 rfl ?_
        refine ex_iconst hΦ dL_law_241 ?_
        refine ex_iadd hΦ dL_law_242 ?_
        refine ex_sald hΦ hS o27 o28 hn dL_law_243 ?_
        refine ex_callVi [(0, ((xs (Int.toNat (x3 + 1))).toInt))] [(0, ((xs (Int.toNat (x3 + 1))).toInt)), (2, x2), (0, r29)] hΦ lkV_L_30 ⟨by decide, by decide⟩ (Nat.le_of_ble_eq_true rfl) rfl (by decide) 8 (by decide) rfl o30 dL_law_244 rfl h (fun r31 μ31 h => ?_)
        obtain ⟨o32, h⟩ := h
        obtain ⟨o33, h⟩ := h
        refine ex_icmp_eq 1135 hΦ dL_law_247 (by decide) o32 o33 (fun c => ?_) (fun c => ?_)
        · have h := h.1 c
          refine ex_iinc (L' := [some (3, x0), some (2, x1), some (2, x2), some (0, (x3 + 5))]) hΦ dL_law_1135 rfl (by decide) rfl ?_
          refine ex_goto 18 hΦ dL_law_1138 (by decide) ?_
          exact h
        · have h := h.2 c
          refine ex_iconst hΦ dL_law_250 ?_
          exact h.elim
      | 4, _ =>
        refine ⟨_, 252, by rw [hx]; rfl, by decide, ?_⟩
        have h := h.2.2.2.2.1 (by rw [hx]; rfl)
        obtain ⟨o34, h⟩ := h
        refine ex_aload_n hΦ dL_law_252 rfl o34.1 ?_
        refine ex_aload_s hΦ dL_law_253 rfl ?_
        refine ex_iload_n hΦ dL_law_254 rfl ?_
        refine ex_iconst hΦ dL_law_255 ?_
        refine ex_iadd hΦ dL_law_256 ?_
        obtain ⟨o35, h⟩ := h
        obtain ⟨o36, h⟩ := h
        refine ex_sald hΦ hS o35 o36 hn dL_law_257 ?_
        refine ex_aload_s hΦ dL_law_258 rfl ?_
        refine ex_iload_n hΦ dL_law_259 rfl ?_
        refine ex_iconst hΦ dL_law_260 ?_
        refine ex_iadd hΦ dL_law_261 ?_
        obtain ⟨o37, h⟩ := h
        obtain ⟨o38, h⟩ := h
        refine ex_sald hΦ hS o37 o38 hn dL_law_262 ?_
        refine ex_callVi [(0, ((xs (Int.toNat (x3 + 1))).toInt)), (0, ((xs (Int.toNat (x3 + 2))).toInt))] [(0, ((xs (Int.toNat (x3 + 2))).toInt)), (0, ((xs (Int.toNat (x3 + 1))).toInt)), (2, x1)] hΦ lkV_L_31 ⟨by decide, by decide⟩ (Nat.le_of_ble_eq_true rfl) rfl (by decide) 7 (by decide) rfl o34 dL_law_263 rfl h (fun r39 μ39 h => ?_)
        obtain ⟨o40, h⟩ := h
        refine ex_aload_n hΦ dL_law_266 rfl o40.1 ?_
        refine ex_aload_s hΦ dL_law_267 rfl ?_
        refine ex_iload_n hΦ dL_law_268 rfl ?_
        refine ex_iconst hΦ dL_law_269 ?_
        refine ex_iadd hΦ dL_law_270 ?_
        refine ex_sald hΦ hS o35 o36 hn dL_law_271 ?_
        refine ex_aload_s hΦ dL_law_272 rfl ?_
        refine ex_iload_n hΦ dL_law_273 rfl ?_
        refine ex_iconst hΦ dL_law_274 ?_
        refine ex_iadd hΦ dL_law_275 ?_
        refine ex_sald hΦ hS o37 o38 hn dL_law_276 ?_
        refine ex_callVi [(0, ((xs (Int.toNat (x3 + 1))).toInt)), (0, ((xs (Int.toNat (x3 + 2))).toInt))] [(0, ((xs (Int.toNat (x3 + 2))).toInt)), (0, ((xs (Int.toNat (x3 + 1))).toInt)), (2, x2), (0, r39)] hΦ lkV_L_35 ⟨by decide, by decide⟩ (Nat.le_of_ble_eq_true rfl) rfl (by decide) 8 (by decide) rfl o40 dL_law_277 rfl h (fun r41 μ41 h => ?_)
        obtain ⟨o42, h⟩ := h
        obtain ⟨o43, h⟩ := h
        refine ex_icmp_eq 1135 hΦ dL_law_280 (by decide) o42 o43 (fun c => ?_) (fun c => ?_)
        · have h := h.1 c
          refine ex_iinc (L' := [some (3, x0), some (2, x1), some (2, x2), some (0, (x3 + 5))]) hΦ dL_law_1135 rfl (by decide) rfl ?_
          refine ex_goto 18 hΦ dL_law_1138 (by decide) ?_
          exact h
        · have h := h.2 c
          refine ex_iconst hΦ dL_law_283 ?_
          exact h.elim
      | 5, _ =>
        refine ⟨_, 285, by rw [hx]; rfl, by decide, ?_⟩
        have h := h.2.2.2.2.2.1 (by rw [hx]; rfl)
        obtain ⟨o44, h⟩ := h
        refine ex_aload_n hΦ dL_law_285 rfl o44.1 ?_
        refine ex_aload_s hΦ dL_law_286 rfl ?_
        refine ex_iload_n hΦ dL_law_287 rfl ?_
        refine ex_iconst hΦ dL_law_288 ?_
        refine ex_iadd hΦ dL_law_289 ?_
        obtain ⟨o45, h⟩ := h
        obtain ⟨o46, h⟩ := h
        refine ex_sald hΦ hS o45 o46 hn dL_law_290 ?_
        refine ex_aload_s hΦ dL_law_291 rfl ?_
        refine ex_iload_n hΦ dL_law_292 rfl ?_
        refine ex_iconst hΦ dL_law_293 ?_
        refine ex_iadd hΦ dL_law_294 ?_
        obtain ⟨o47, h⟩ := h
        obtain ⟨o48, h⟩ := h
        refine ex_sald hΦ hS o47 o48 hn dL_law_295 ?_
        refine ex_callVi [(0, ((xs (Int.toNat (x3 + 1))).toInt)), (0, ((xs (Int.toNat (x3 + 2))).toInt))] [(0, ((xs (Int.toNat (x3 + 2))).toInt)), (0, ((xs (Int.toNat (x3 + 1))).toInt)), (2, x1)] hΦ lkV_L_36 ⟨by decide, by decide⟩ (Nat.le_of_ble_eq_true rfl) rfl (by decide) 7 (by decide) rfl o44 dL_law_296 rfl h (fun r49 μ49 h => ?_)
        obtain ⟨o50, h⟩ := h
        refine ex_aload_n hΦ dL_law_299 rfl o50.1 ?_
        refine ex_aload_s hΦ dL_law_300 rfl ?_
        refine ex_iload_n hΦ dL_law_301 rfl ?_
        refine ex_iconst hΦ dL_law_302 ?_
        refine ex_iadd hΦ dL_law_303 ?_
        refine ex_sald hΦ hS o45 o46 hn dL_law_304 ?_
        refine ex_aload_s hΦ dL_law_305 rfl ?_
        refine ex_iload_n hΦ dL_law_306 rfl ?_
        refine ex_iconst hΦ dL_law_307 ?_
        refine ex_iadd hΦ dL_law_308 ?_
        refine ex_sald hΦ hS o47 o48 hn dL_law_309 ?_
        refine ex_callVi [(0, ((xs (Int.toNat (x3 + 1))).toInt)), (0, ((xs (Int.toNat (x3 + 2))).toInt))] [(0, ((xs (Int.toNat (x3 + 2))).toInt)), (0, ((xs (Int.toNat (x3 + 1))).toInt)), (2, x2), (0, r49)] hΦ lkV_L_39 ⟨by decide, by decide⟩ (Nat.le_of_ble_eq_true rfl) rfl (by decide) 8 (by decide) rfl o50 dL_law_310 rfl h (fun r51 μ51 h => ?_)
        obtain ⟨o52, h⟩ := h
        obtain ⟨o53, h⟩ := h
        refine ex_icmp_eq 1135 hΦ dL_law_313 (by decide) o52 o53 (fun c => ?_) (fun c => ?_)
        · have h := h.1 c
          refine ex_iinc (L' := [some (3, x0), some (2, x1), some (2, x2), some (0, (x3 + 5))]) hΦ dL_law_1135 rfl (by decide) rfl ?_
          refine ex_goto 18 hΦ dL_law_1138 (by decide) ?_
          exact h
        · have h := h.2 c
          refine ex_iconst hΦ dL_law_316 ?_
          exact h.elim
      | 6, _ =>
        refine ⟨_, 318, by rw [hx]; rfl, by decide, ?_⟩
        have h := h.2.2.2.2.2.2.1 (by rw [hx]; rfl)
        obtain ⟨o54, h⟩ := h
        refine ex_aload_n hΦ dL_law_318 rfl o54.1 ?_
        refine ex_aload_s hΦ dL_law_319 rfl ?_
        refine ex_iload_n hΦ dL_law_320 rfl ?_
        refine ex_iconst hΦ dL_law_321 ?_
        refine ex_iadd hΦ dL_law_322 ?_
        obtain ⟨o55, h⟩ := h
        obtain ⟨o56, h⟩ := h
        refine ex_sald hΦ hS o55 o56 hn dL_law_323 ?_
        refine ex_aload_s hΦ dL_law_324 rfl ?_
        refine ex_iload_n hΦ dL_law_325 rfl ?_
        refine ex_iconst hΦ dL_law_326 ?_
        refine ex_iadd hΦ dL_law_327 ?_
        obtain ⟨o57, h⟩ := h
        obtain ⟨o58, h⟩ := h
        refine ex_sald hΦ hS o57 o58 hn dL_law_328 ?_
        refine ex_callVi [(0, ((xs (Int.toNat (x3 + 1))).toInt)), (0, ((xs (Int.toNat (x3 + 2))).toInt))] [(0, ((xs (Int.toNat (x3 + 2))).toInt)), (0, ((xs (Int.toNat (x3 + 1))).toInt)), (2, x1)] hΦ lkV_L_40 ⟨by decide, by decide⟩ (Nat.le_of_ble_eq_true rfl) rfl (by decide) 7 (by decide) rfl o54 dL_law_329 rfl h (fun r59 μ59 h => ?_)
        obtain ⟨o60, h⟩ := h
        refine ex_aload_n hΦ dL_law_332 rfl o60.1 ?_
        refine ex_aload_s hΦ dL_law_333 rfl ?_
        refine ex_iload_n hΦ dL_law_334 rfl ?_
        refine ex_iconst hΦ dL_law_335 ?_
        refine ex_iadd hΦ dL_law_336 ?_
        refine ex_sald hΦ hS o55 o56 hn dL_law_337 ?_
        refine ex_aload_s hΦ dL_law_338 rfl ?_
        refine ex_iload_n hΦ dL_law_339 rfl ?_
        refine ex_iconst hΦ dL_law_340 ?_
        refine ex_iadd hΦ dL_law_341 ?_
        refine ex_sald hΦ hS o57 o58 hn dL_law_342 ?_
        refine ex_callVi [(0, ((xs (Int.toNat (x3 + 1))).toInt)), (0, ((xs (Int.toNat (x3 + 2))).toInt))] [(0, ((xs (Int.toNat (x3 + 2))).toInt)), (0, ((xs (Int.toNat (x3 + 1))).toInt)), (2, x2), (0, r59)] hΦ lkV_L_43 ⟨by decide, by decide⟩ (Nat.le_of_ble_eq_true rfl) rfl (by decide) 8 (by decide) rfl o60 dL_law_343 rfl h (fun r61 μ61 h => ?_)
        obtain ⟨o62, h⟩ := h
        obtain ⟨o63, h⟩ := h
        refine ex_icmp_eq 1135 hΦ dL_law_346 (by decide) o62 o63 (fun c => ?_) (fun c => ?_)
        · have h := h.1 c
          refine ex_iinc (L' := [some (3, x0), some (2, x1), some (2, x2), some (0, (x3 + 5))]) hΦ dL_law_1135 rfl (by decide) rfl ?_
          refine ex_goto 18 hΦ dL_law_1138 (by decide) ?_
          exact h
        · have h := h.2 c
          refine ex_iconst hΦ dL_law_349 ?_
          exact h.elim
      | 7, _ =>
        refine ⟨_, 351, by rw [hx]; rfl, by decide, ?_⟩
        have h := h.2.2.2.2.2.2.2.1 (by rw [hx]; rfl)
        obtain ⟨o64, h⟩ := h
        refine ex_aload_n hΦ dL_law_351 rfl o64.1 ?_
        refine ex_aload_s hΦ dL_law_352 rfl ?_
        refine ex_iload_n hΦ dL_law_353 rfl ?_
        refine ex_iconst hΦ dL_law_354 ?_
        refine ex_iadd hΦ dL_law_355 ?_
        obtain ⟨o65, h⟩ := h
        obtain ⟨o66, h⟩ := h
        refine ex_sald hΦ hS o65 o66 hn dL_law_356 ?_
        refine ex_aload_s hΦ dL_law_357 rfl ?_
        refine ex_iload_n hΦ dL_law_358 rfl ?_
        refine ex_iconst hΦ dL_law_359 ?_
        refine ex_iadd hΦ dL_law_360 ?_
        obtain ⟨o67, h⟩ := h
        obtain ⟨o68, h⟩ := h
        refine ex_sald hΦ hS o67 o68 hn dL_law_361 ?_
        refine ex_callVi [(0, ((xs (Int.toNat (x3 + 1))).toInt)), (0, ((xs (Int.toNat (x3 + 2))).toInt))] [(0, ((xs (Int.toNat (x3 + 2))).toInt)), (0, ((xs (Int.toNat (x3 + 1))).toInt)), (2, x1)] hΦ lkV_L_44 ⟨by decide, by decide⟩ (Nat.le_of_ble_eq_true rfl) rfl (by decide) 7 (by decide) rfl o64 dL_law_362 rfl h (fun r69 μ69 h => ?_)
        obtain ⟨o70, h⟩ := h
        refine ex_aload_n hΦ dL_law_365 rfl o70.1 ?_
        refine ex_aload_s hΦ dL_law_366 rfl ?_
        refine ex_iload_n hΦ dL_law_367 rfl ?_
        refine ex_iconst hΦ dL_law_368 ?_
        refine ex_iadd hΦ dL_law_369 ?_
        refine ex_sald hΦ hS o65 o66 hn dL_law_370 ?_
        refine ex_aload_s hΦ dL_law_371 rfl ?_
        refine ex_iload_n hΦ dL_law_372 rfl ?_
        refine ex_iconst hΦ dL_law_373 ?_
        refine ex_iadd hΦ dL_law_374 ?_
        refine ex_sald hΦ hS o67 o68 hn dL_law_375 ?_
        refine ex_callVi [(0, ((xs (Int.toNat (x3 + 1))).toInt)), (0, ((xs (Int.toNat (x3 + 2))).toInt))] [(0, ((xs (Int.toNat (x3 + 2))).toInt)), (0, ((xs (Int.toNat (x3 + 1))).toInt)), (2, x2), (0, r69)] hΦ lkV_L_47 ⟨by decide, by decide⟩ (Nat.le_of_ble_eq_true rfl) rfl (by decide) 8 (by decide) rfl o70 dL_law_376 rfl h (fun r71 μ71 h => ?_)
        obtain ⟨o72, h⟩ := h
        obtain ⟨o73, h⟩ := h
        refine ex_icmp_eq 1135 hΦ dL_law_379 (by decide) o72 o73 (fun c => ?_) (fun c => ?_)
        · have h := h.1 c
          refine ex_iinc (L' := [some (3, x0), some (2, x1), some (2, x2), some (0, (x3 + 5))]) hΦ dL_law_1135 rfl (by decide) rfl ?_
          refine ex_goto 18 hΦ dL_law_1138 (by decide) ?_
          exact h
        · have h := h.2 c
          refine ex_iconst hΦ dL_law_382 ?_
          exact h.elim
      | 8, _ =>
        refine ⟨_, 384, by rw [hx]; rfl, by decide, ?_⟩
        have h := h.2.2.2.2.2.2.2.2.1 (by rw [hx]; rfl)
        obtain ⟨o74, h⟩ := h
        refine ex_aload_n hΦ dL_law_384 rfl o74.1 ?_
        refine ex_aload_s hΦ dL_law_385 rfl ?_
        refine ex_iload_n hΦ dL_law_386 rfl ?_
        refine ex_iconst hΦ dL_law_387 ?_
        refine ex_iadd hΦ dL_law_388 ?_
        obtain ⟨o75, h⟩ := h
        obtain ⟨o76, h⟩ := h
        refine ex_sald hΦ hS o75 o76 hn dL_law_389 ?_
        refine ex_callVi [(0, ((xs (Int.toNat (x3 + 1))).toInt))] [(0, ((xs (Int.toNat (x3 + 1))).toInt)), (2, x1)] hΦ lkV_L_48 ⟨by decide, by decide⟩ (Nat.le_of_ble_eq_true rfl) rfl (by decide) 7 (by decide) rfl o74 dL_law_390 rfl h (fun r77 μ77 h => ?_)
        obtain ⟨o78, h⟩ := h
        refine ex_aload_n hΦ dL_law_393 rfl o78.1 ?_
        refine ex_aload_s hΦ dL_law_394 rfl ?_
        refine ex_iload_n hΦ dL_law_395 rfl ?_
        refine ex_iconst hΦ dL_law_396 ?_
        refine ex_iadd hΦ dL_law_397 ?_
        refine ex_sald hΦ hS o75 o76 hn dL_law_398 ?_
        refine ex_callVi [(0, ((xs (Int.toNat (x3 + 1))).toInt))] [(0, ((xs (Int.toNat (x3 + 1))).toInt)), (2, x2), (0, r77)] hΦ lkV_L_51 ⟨by decide, by decide⟩ (Nat.le_of_ble_eq_true rfl) rfl (by decide) 8 (by decide) rfl o78 dL_law_399 rfl h (fun r79 μ79 h => ?_)
        obtain ⟨o80, h⟩ := h
        obtain ⟨o81, h⟩ := h
        refine ex_icmp_eq 1135 hΦ dL_law_402 (by decide) o80 o81 (fun c => ?_) (fun c => ?_)
        · have h := h.1 c
          refine ex_iinc (L' := [some (3, x0), some (2, x1), some (2, x2), some (0, (x3 + 5))]) hΦ dL_law_1135 rfl (by decide) rfl ?_
          refine ex_goto 18 hΦ dL_law_1138 (by decide) ?_
          exact h
        · have h := h.2 c
          refine ex_iconst hΦ dL_law_405 ?_
          exact h.elim
      | 9, _ =>
        refine ⟨_, 407, by rw [hx]; rfl, by decide, ?_⟩
        have h := h.2.2.2.2.2.2.2.2.2.1 (by rw [hx]; rfl)
        obtain ⟨o82, h⟩ := h
        refine ex_aload_n hΦ dL_law_407 rfl o82.1 ?_
        refine ex_aload_s hΦ dL_law_408 rfl ?_
        refine ex_iload_n hΦ dL_law_409 rfl ?_
        refine ex_iconst hΦ dL_law_410 ?_
        refine ex_iadd hΦ dL_law_411 ?_
        obtain ⟨o83, h⟩ := h
        obtain ⟨o84, h⟩ := h
        refine ex_sald hΦ hS o83 o84 hn dL_law_412 ?_
        refine ex_aload_s hΦ dL_law_413 rfl ?_
        refine ex_iload_n hΦ dL_law_414 rfl ?_
        refine ex_iconst hΦ dL_law_415 ?_
        refine ex_iadd hΦ dL_law_416 ?_
        obtain ⟨o85, h⟩ := h
        obtain ⟨o86, h⟩ := h
        refine ex_sald hΦ hS o85 o86 hn dL_law_417 ?_
        obtain ⟨o87, h⟩ := h
        refine ex_if_eq 425 hΦ dL_law_418 (by decide) o87 (fun c => ?_) (fun c => ?_)
        · have h := h.1 c
          refine ex_iconst hΦ dL_law_425 ?_
          exact h
        · have h := h.2 c
          refine ex_iconst hΦ dL_law_421 ?_
          refine ex_goto 426 hΦ dL_law_422 (by decide) ?_
          exact h
      | 10, _ =>
        refine ⟨_, 456, by rw [hx]; rfl, by decide, ?_⟩
        have h := h.2.2.2.2.2.2.2.2.2.2.1 (by rw [hx]; rfl)
        obtain ⟨o88, h⟩ := h
        refine ex_aload_n hΦ dL_law_456 rfl o88.1 ?_
        refine ex_aload_s hΦ dL_law_457 rfl ?_
        refine ex_iload_n hΦ dL_law_458 rfl ?_
        refine ex_iconst hΦ dL_law_459 ?_
        refine ex_iadd hΦ dL_law_460 ?_
        obtain ⟨o89, h⟩ := h
        obtain ⟨o90, h⟩ := h
        refine ex_sald hΦ hS o89 o90 hn dL_law_461 ?_
        refine ex_aload_s hΦ dL_law_462 rfl ?_
        refine ex_iload_n hΦ dL_law_463 rfl ?_
        refine ex_iconst hΦ dL_law_464 ?_
        refine ex_iadd hΦ dL_law_465 ?_
        obtain ⟨o91, h⟩ := h
        obtain ⟨o92, h⟩ := h
        refine ex_sald hΦ hS o91 o92 hn dL_law_466 ?_
        refine ex_callVi [(0, ((xs (Int.toNat (x3 + 1))).toInt)), (0, ((xs (Int.toNat (x3 + 2))).toInt))] [(0, ((xs (Int.toNat (x3 + 2))).toInt)), (0, ((xs (Int.toNat (x3 + 1))).toInt)), (2, x1)] hΦ lkV_L_57 ⟨by decide, by decide⟩ (Nat.le_of_ble_eq_true rfl) rfl (by decide) 7 (by decide) rfl o88 dL_law_467 rfl h (fun r93 μ93 h => ?_)
        obtain ⟨o94, h⟩ := h
        refine ex_aload_n hΦ dL_law_470 rfl o94.1 ?_
        refine ex_aload_s hΦ dL_law_471 rfl ?_
        refine ex_iload_n hΦ dL_law_472 rfl ?_
        refine ex_iconst hΦ dL_law_473 ?_
        refine ex_iadd hΦ dL_law_474 ?_
        refine ex_sald hΦ hS o89 o90 hn dL_law_475 ?_
        refine ex_aload_s hΦ dL_law_476 rfl ?_
        refine ex_iload_n hΦ dL_law_477 rfl ?_
        refine ex_iconst hΦ dL_law_478 ?_
        refine ex_iadd hΦ dL_law_479 ?_
        refine ex_sald hΦ hS o91 o92 hn dL_law_480 ?_
        refine ex_callVi [(0, ((xs (Int.toNat (x3 + 1))).toInt)), (0, ((xs (Int.toNat (x3 + 2))).toInt))] [(0, ((xs (Int.toNat (x3 + 2))).toInt)), (0, ((xs (Int.toNat (x3 + 1))).toInt)), (2, x2), (0, r93)] hΦ lkV_L_60 ⟨by decide, by decide⟩ (Nat.le_of_ble_eq_true rfl) rfl (by decide) 8 (by decide) rfl o94 dL_law_481 rfl h (fun r95 μ95 h => ?_)
        obtain ⟨o96, h⟩ := h
        obtain ⟨o97, h⟩ := h
        refine ex_icmp_eq 1135 hΦ dL_law_484 (by decide) o96 o97 (fun c => ?_) (fun c => ?_)
        · have h := h.1 c
          refine ex_iinc (L' := [some (3, x0), some (2, x1), some (2, x2), some (0, (x3 + 5))]) hΦ dL_law_1135 rfl (by decide) rfl ?_
          refine ex_goto 18 hΦ dL_law_1138 (by decide) ?_
          exact h
        · have h := h.2 c
          refine ex_iconst hΦ dL_law_487 ?_
          exact h.elim
      | 11, _ =>
        refine ⟨_, 489, by rw [hx]; rfl, by decide, ?_⟩
        have h := h.2.2.2.2.2.2.2.2.2.2.2.1 (by rw [hx]; rfl)
        obtain ⟨o98, h⟩ := h
        refine ex_aload_n hΦ dL_law_489 rfl o98.1 ?_
        refine ex_aload_s hΦ dL_law_490 rfl ?_
        refine ex_iload_n hΦ dL_law_491 rfl ?_
        refine ex_iconst hΦ dL_law_492 ?_
        refine ex_iadd hΦ dL_law_493 ?_
        obtain ⟨o99, h⟩ := h
        obtain ⟨o100, h⟩ := h
        refine ex_sald hΦ hS o99 o100 hn dL_law_494 ?_
        refine ex_callVi [(0, ((xs (Int.toNat (x3 + 1))).toInt))] [(0, ((xs (Int.toNat (x3 + 1))).toInt)), (2, x1)] hΦ lkV_L_61 ⟨by decide, by decide⟩ (Nat.le_of_ble_eq_true rfl) rfl (by decide) 7 (by decide) rfl o98 dL_law_495 rfl h (fun r101 μ101 h => ?_)
        obtain ⟨o102, h⟩ := h
        refine ex_aload_n hΦ dL_law_498 rfl o102.1 ?_
        refine ex_aload_s hΦ dL_law_499 rfl ?_
        refine ex_iload_n hΦ dL_law_500 rfl ?_
        refine ex_iconst hΦ dL_law_501 ?_
        refine ex_iadd hΦ dL_law_502 ?_
        refine ex_sald hΦ hS o99 o100 hn dL_law_503 ?_
        refine ex_callVi [(0, ((xs (Int.toNat (x3 + 1))).toInt))] [(0, ((xs (Int.toNat (x3 + 1))).toInt)), (2, x2), (0, r101)] hΦ lkV_L_64 ⟨by decide, by decide⟩ (Nat.le_of_ble_eq_true rfl) rfl (by decide) 8 (by decide) rfl o102 dL_law_504 rfl h (fun r103 μ103 h => ?_)
        obtain ⟨o104, h⟩ := h
        obtain ⟨o105, h⟩ := h
        refine ex_icmp_eq 1135 hΦ dL_law_507 (by decide) o104 o105 (fun c => ?_) (fun c => ?_)
        · have h := h.1 c
          refine ex_iinc (L' := [some (3, x0), some (2, x1), some (2, x2), some (0, (x3 + 5))]) hΦ dL_law_1135 rfl (by decide) rfl ?_
          refine ex_goto 18 hΦ dL_law_1138 (by decide) ?_
          exact h
        · have h := h.2 c
          refine ex_iconst hΦ dL_law_510 ?_
          exact h.elim
      | 12, _ =>
        refine ⟨_, 512, by rw [hx]; rfl, by decide, ?_⟩
        have h := h.2.2.2.2.2.2.2.2.2.2.2.2.1 (by rw [hx]; rfl)
        obtain ⟨o106, h⟩ := h
        refine ex_aload_n hΦ dL_law_512 rfl o106.1 ?_
        refine ex_aload_s hΦ dL_law_513 rfl ?_
        refine ex_iload_n hΦ dL_law_514 rfl ?_
        refine ex_iconst hΦ dL_law_515 ?_
        refine ex_iadd hΦ dL_law_516 ?_
        obtain ⟨o107, h⟩ := h
        obtain ⟨o108, h⟩ := h
        refine ex_sald hΦ hS o107 o108 hn dL_law_517 ?_
        refine ex_callVi [(0, ((xs (Int.toNat (x3 + 1))).toInt))] [(0, ((xs (Int.toNat (x3 + 1))).toInt)), (2, x1)] hΦ lkV_L_65 ⟨by decide, by decide⟩ (Nat.le_of_ble_eq_true rfl) rfl (by decide) 7 (by decide) rfl o106 dL_law_518 rfl h (fun r109 μ109 h => ?_)
        obtain ⟨o110, h⟩ := h
        refine ex_aload_n hΦ dL_law_521 rfl o110.1 ?_
        refine ex_aload_s hΦ dL_law_522 rfl ?_
        refine ex_iload_n hΦ dL_law_523 rfl ?_
        refine ex_iconst hΦ dL_law_524 ?_
        refine ex_iadd hΦ dL_law_525 ?_
        refine ex_sald hΦ hS o107 o108 hn dL_law_526 ?_
        refine ex_callVi [(0, ((xs (Int.toNat (x3 + 1))).toInt))] [(0, ((xs (Int.toNat (x3 + 1))).toInt)), (2, x2), (0, r109)] hΦ lkV_L_68 ⟨by decide, by decide⟩ (Nat.le_of_ble_eq_true rfl) rfl (by decide) 8 (by decide) rfl o110 dL_law_527 rfl h (fun r111 μ111 h => ?_)
        obtain ⟨o112, h⟩ := h
        obtain ⟨o113, h⟩ := h
        refine ex_icmp_eq 1135 hΦ dL_law_530 (by decide) o112 o113 (fun c => ?_) (fun c => ?_)
        · have h := h.1 c
          refine ex_iinc (L' := [some (3, x0), some (2, x1), some (2, x2), some (0, (x3 + 5))]) hΦ dL_law_1135 rfl (by decide) rfl ?_
          refine ex_goto 18 hΦ dL_law_1138 (by decide) ?_
          exact h
        · have h := h.2 c
          refine ex_iconst hΦ dL_law_533 ?_
          exact h.elim
      | 13, _ =>
        refine ⟨_, 535, by rw [hx]; rfl, by decide, ?_⟩
        have h := h.2.2.2.2.2.2.2.2.2.2.2.2.2.1 (by rw [hx]; rfl)
        obtain ⟨o114, h⟩ := h
        refine ex_aload_n hΦ dL_law_535 rfl o114.1 ?_
        refine ex_aload_s hΦ dL_law_536 rfl ?_
        refine ex_iload_n hΦ dL_law_537 rfl ?_
        refine ex_iconst hΦ dL_law_538 ?_
        refine ex_iadd hΦ dL_law_539 ?_
        obtain ⟨o115, h⟩ := h
        obtain ⟨o116, h⟩ := h
        refine ex_sald hΦ hS o115 o116 hn dL_law_540 ?_
        refine ex_callVi [(0, ((xs (Int.toNat (x3 + 1))).toInt))] [(0, ((xs (Int.toNat (x3 + 1))).toInt)), (2, x1)] hΦ lkV_L_69 ⟨by decide, by decide⟩ (Nat.le_of_ble_eq_true rfl) rfl (by decide) 7 (by decide) rfl o114 dL_law_541 rfl h (fun r117 μ117 h => ?_)
        obtain ⟨o118, h⟩ := h
        refine ex_aload_n hΦ dL_law_544 rfl o118.1 ?_
        refine ex_aload_s hΦ dL_law_545 rfl ?_
        refine ex_iload_n hΦ dL_law_546 rfl ?_
        refine ex_iconst hΦ dL_law_547 ?_
        refine ex_iadd hΦ dL_law_548 ?_
        refine ex_sald hΦ hS o115 o116 hn dL_law_549 ?_
        refine ex_callVi [(0, ((xs (Int.toNat (x3 + 1))).toInt))] [(0, ((xs (Int.toNat (x3 + 1))).toInt)), (2, x2), (0, r117)] hΦ lkV_L_72 ⟨by decide, by decide⟩ (Nat.le_of_ble_eq_true rfl) rfl (by decide) 8 (by decide) rfl o118 dL_law_550 rfl h (fun r119 μ119 h => ?_)
        obtain ⟨o120, h⟩ := h
        obtain ⟨o121, h⟩ := h
        refine ex_icmp_eq 1135 hΦ dL_law_553 (by decide) o120 o121 (fun c => ?_) (fun c => ?_)
        · have h := h.1 c
          refine ex_iinc (L' := [some (3, x0), some (2, x1), some (2, x2), some (0, (x3 + 5))]) hΦ dL_law_1135 rfl (by decide) rfl ?_
          refine ex_goto 18 hΦ dL_law_1138 (by decide) ?_
          exact h
        · have h := h.2 c
          refine ex_iconst hΦ dL_law_556 ?_
          exact h.elim
      | 14, _ =>
        refine ⟨_, 558, by rw [hx]; rfl, by decide, ?_⟩
        have h := h.2.2.2.2.2.2.2.2.2.2.2.2.2.2.1 (by rw [hx]; rfl)
        obtain ⟨o122, h⟩ := h
        refine ex_aload_n hΦ dL_law_558 rfl o122.1 ?_
        refine ex_aload_s hΦ dL_law_559 rfl ?_
        refine ex_iload_n hΦ dL_law_560 rfl ?_
        refine ex_iconst hΦ dL_law_561 ?_
        refine ex_iadd hΦ dL_law_562 ?_
        obtain ⟨o123, h⟩ := h
        obtain ⟨o124, h⟩ := h
        refine ex_sald hΦ hS o123 o124 hn dL_law_563 ?_
        refine ex_callVi [(0, ((xs (Int.toNat (x3 + 1))).toInt))] [(0, ((xs (Int.toNat (x3 + 1))).toInt)), (2, x1)] hΦ lkV_L_73 ⟨by decide, by decide⟩ (Nat.le_of_ble_eq_true rfl) rfl (by decide) 7 (by decide) rfl o122 dL_law_564 rfl h (fun r125 μ125 h => ?_)
        obtain ⟨o126, h⟩ := h
        refine ex_aload_n hΦ dL_law_567 rfl o126.1 ?_
        refine ex_aload_s hΦ dL_law_568 rfl ?_
        refine ex_iload_n hΦ dL_law_569 rfl ?_
        refine ex_iconst hΦ dL_law_570 ?_
        refine ex_iadd hΦ dL_law_571 ?_
        refine ex_sald hΦ hS o123 o124 hn dL_law_572 ?_
        refine ex_callVi [(0, ((xs (Int.toNat (x3 + 1))).toInt))] [(0, ((xs (Int.toNat (x3 + 1))).toInt)), (2, x2), (0, r125)] hΦ lkV_L_76 ⟨by decide, by decide⟩ (Nat.le_of_ble_eq_true rfl) rfl (by decide) 8 (by decide) rfl o126 dL_law_573 rfl h (fun r127 μ127 h => ?_)
        obtain ⟨o128, h⟩ := h
        obtain ⟨o129, h⟩ := h
        refine ex_icmp_eq 1135 hΦ dL_law_576 (by decide) o128 o129 (fun c => ?_) (fun c => ?_)
        · have h := h.1 c
          refine ex_iinc (L' := [some (3, x0), some (2, x1), some (2, x2), some (0, (x3 + 5))]) hΦ dL_law_1135 rfl (by decide) rfl ?_
          refine ex_goto 18 hΦ dL_law_1138 (by decide) ?_
          exact h
        · have h := h.2 c
          refine ex_iconst hΦ dL_law_579 ?_
          exact h.elim
      | 15, _ =>
        refine ⟨_, 581, by rw [hx]; rfl, by decide, ?_⟩
        have h := h.2.2.2.2.2.2.2.2.2.2.2.2.2.2.2.1 (by rw [hx]; rfl)
        obtain ⟨o130, h⟩ := h
        refine ex_aload_n hΦ dL_law_581 rfl o130.1 ?_
        refine ex_callVi [] [(2, x1)] hΦ lkV_L_77 ⟨by decide, by decide⟩ (Nat.le_of_ble_eq_true rfl) rfl (by decide) 7 (by decide) rfl o130 dL_law_582 rfl h (fun r131 μ131 h => ?_)
        obtain ⟨o132, h⟩ := h
        refine ex_aload_n hΦ dL_law_585 rfl o132.1 ?_
        refine ex_callVi [] [(2, x2), (0, r131)] hΦ lkV_L_80 ⟨by decide, by decide⟩ (Nat.le_of_ble_eq_true rfl) rfl (by decide) 8 (by decide) rfl o132 dL_law_586 rfl h (fun r133 μ133 h => ?_)
        obtain ⟨o134, h⟩ := h
        obtain ⟨o135, h⟩ := h
        refine ex_icmp_eq 1135 hΦ dL_law_589 (by decide) o134 o135 (fun c => ?_) (fun c => ?_)
        · have h := h.1 c
          refine ex_iinc (L' := [some (3, x0), some (2, x1), some (2, x2), some (0, (x3 + 5))]) hΦ dL_law_1135 rfl (by decide) rfl ?_
          refine ex_goto 18 hΦ dL_law_1138 (by decide) ?_
          exact h
        · have h := h.2 c
          refine ex_iconst hΦ dL_law_592 ?_
          exact h.elim
      | 16, _ =>
        refine ⟨_, 594, by rw [hx]; rfl, by decide, ?_⟩
        have h := h.2.2.2.2.2.2.2.2.2.2.2.2.2.2.2.2.1 (by rw [hx]; rfl)
        obtain ⟨o136, h⟩ := h
        refine ex_aload_n hΦ dL_law_594 rfl o136.1 ?_
        refine ex_aload_s hΦ dL_law_595 rfl ?_
        refine ex_iload_n hΦ dL_law_596 rfl ?_
        refine ex_iconst hΦ dL_law_597 ?_
        refine ex_iadd hΦ dL_law_598 ?_
        obtain ⟨o137, h⟩ := h
        obtain ⟨o138, h⟩ := h
        refine ex_sald hΦ hS o137 o138 hn dL_law_599 ?_
        refine ex_aload_s hΦ dL_law_600 rfl ?_
        refine ex_iload_n hΦ dL_law_601 rfl ?_
        refine ex_iconst hΦ dL_law_602 ?_
        refine ex_iadd hΦ dL_law_603 ?_
        obtain ⟨o139, h⟩ := h
        obtain ⟨o140, h⟩ := h
        refine ex_sald hΦ hS o139 o140 hn dL_law_604 ?_
        refine ex_aload_s hΦ dL_law_605 rfl ?_
        refine ex_iload_n hΦ dL_law_606 rfl ?_
        refine ex_iconst hΦ dL_law_607 ?_
        refine ex_iadd hΦ dL_law_608 ?_
        obtain ⟨o141, h⟩ := h
        obtain ⟨o142, h⟩ := h
        refine ex_sald hΦ hS o141 o142 hn dL_law_609 ?_
        refine ex_aload_s hΦ dL_law_610 rfl ?_
        refine ex_iload_n hΦ dL_law_611 rfl ?_
        refine ex_iconst hΦ dL_law_612 ?_
        refine ex_iadd hΦ dL_law_613 ?_
        obtain ⟨o143, h⟩ := h
        obtain ⟨o144, h⟩ := h
        refine ex_sald hΦ hS o143 o144 hn dL_law_614 ?_
        refine ex_callVi [(0, ((xs (Int.toNat (x3 + 1))).toInt)), (0, ((xs (Int.toNat (x3 + 2))).toInt)), (0, ((xs (Int.toNat (x3 + 3))).toInt)), (0, ((xs (Int.toNat (x3 + 4))).toInt))] [(0, ((xs (Int.toNat (x3 + 4))).toInt)), (0, ((xs (Int.toNat (x3 + 3))).toInt)), (0, ((xs (Int.toNat (x3 + 2))).toInt)), (0, ((xs (Int.toNat (x3 + 1))).toInt)), (2, x1)] hΦ lkV_L_81 ⟨by decide, by decide⟩ (Nat.le_of_ble_eq_true rfl) rfl (by decide) 7 (by decide) rfl o136 dL_law_615 rfl h (fun r145 μ145 h => ?_)
        obtain ⟨o146, h⟩ := h
        refine ex_aload_n hΦ dL_law_618 rfl o146.1 ?_
        refine ex_aload_s hΦ dL_law_619 rfl ?_
        refine ex_iload_n hΦ dL_law_620 rfl ?_
        refine ex_iconst hΦ dL_law_621 ?_
        refine ex_iadd hΦ dL_law_622 ?_
        refine ex_sald hΦ hS o137 o138 hn dL_law_623 ?_
        refine ex_aload_s hΦ dL_law_624 rfl ?_
        refine ex_iload_n hΦ dL_law_625 rfl ?_
        refine ex_iconst hΦ dL_law_626 ?_
        refine ex_iadd hΦ dL_law_627 ?_
        refine ex_sald hΦ hS o139 o140 hn dL_law_628 ?_
        refine ex_aload_s hΦ dL_law_629 rfl ?_
        refine ex_iload_n hΦ dL_law_630 rfl ?_
        refine ex_iconst hΦ dL_law_631 ?_
        refine ex_iadd hΦ dL_law_632 ?_
        refine ex_sald hΦ hS o141 o142 hn dL_law_633 ?_
        refine ex_aload_s hΦ dL_law_634 rfl ?_
        refine ex_iload_n hΦ dL_law_635 rfl ?_
        refine ex_iconst hΦ dL_law_636 ?_
        refine ex_iadd hΦ dL_law_637 ?_
        refine ex_sald hΦ hS o143 o144 hn dL_law_638 ?_
        refine ex_callVi [(0, ((xs (Int.toNat (x3 + 1))).toInt)), (0, ((xs (Int.toNat (x3 + 2))).toInt)), (0, ((xs (Int.toNat (x3 + 3))).toInt)), (0, ((xs (Int.toNat (x3 + 4))).toInt))] [(0, ((xs (Int.toNat (x3 + 4))).toInt)), (0, ((xs (Int.toNat (x3 + 3))).toInt)), (0, ((xs (Int.toNat (x3 + 2))).toInt)), (0, ((xs (Int.toNat (x3 + 1))).toInt)), (2, x2), (0, r145)] hΦ lkV_L_85 ⟨by decide, by decide⟩ (Nat.le_of_ble_eq_true rfl) rfl (by decide) 8 (by decide) rfl o146 dL_law_639 rfl h (fun r147 μ147 h => ?_)
        obtain ⟨o148, h⟩ := h
        obtain ⟨o149, h⟩ := h
        refine ex_icmp_eq 1135 hΦ dL_law_642 (by decide) o148 o149 (fun c => ?_) (fun c => ?_)
        · have h := h.1 c
          refine ex_iinc (L' := [some (3, x0), some (2, x1), some (2, x2), some (0, (x3 + 5))]) hΦ dL_law_1135 rfl (by decide) rfl ?_
          refine ex_goto 18 hΦ dL_law_1138 (by decide) ?_
          exact h
        · have h := h.2 c
          refine ex_iconst hΦ dL_law_645 ?_
          exact h.elim
      | 17, _ =>
        refine ⟨_, 647, by rw [hx]; rfl, by decide, ?_⟩
        have h := h.2.2.2.2.2.2.2.2.2.2.2.2.2.2.2.2.2.1 (by rw [hx]; rfl)
        obtain ⟨o150, h⟩ := h
        refine ex_aload_n hΦ dL_law_647 rfl o150.1 ?_
        refine ex_aload_s hΦ dL_law_648 rfl ?_
        refine ex_iload_n hΦ dL_law_649 rfl ?_
        refine ex_iconst hΦ dL_law_650 ?_
        refine ex_iadd hΦ dL_law_651 ?_
        obtain ⟨o151, h⟩ := h
        obtain ⟨o152, h⟩ := h
        refine ex_sald hΦ hS o151 o152 hn dL_law_652 ?_
        refine ex_aload_s hΦ dL_law_653 rfl ?_
        refine ex_iload_n hΦ dL_law_654 rfl ?_
        refine ex_iconst hΦ dL_law_655 ?_
        refine ex_iadd hΦ dL_law_656 ?_
        obtain ⟨o153, h⟩ := h
        obtain ⟨o154, h⟩ := h
        refine ex_sald hΦ hS o153 o154 hn dL_law_657 ?_
        refine ex_callVi [(0, ((xs (Int.toNat (x3 + 1))).toInt)), (0, ((xs (Int.toNat (x3 + 2))).toInt))] [(0, ((xs (Int.toNat (x3 + 2))).toInt)), (0, ((xs (Int.toNat (x3 + 1))).toInt)), (2, x1)] hΦ lkV_L_86 ⟨by decide, by decide⟩ (Nat.le_of_ble_eq_true rfl) rfl (by decide) 7 (by decide) rfl o150 dL_law_658 rfl h (fun r155 μ155 h => ?_)
        obtain ⟨o156, h⟩ := h
        refine ex_aload_n hΦ dL_law_661 rfl o156.1 ?_
        refine ex_aload_s hΦ dL_law_662 rfl ?_
        refine ex_iload_n hΦ dL_law_663 rfl ?_
        refine ex_iconst hΦ dL_law_664 ?_
        refine ex_iadd hΦ dL_law_665 ?_
        refine ex_sald hΦ hS o151 o152 hn dL_law_666 ?_
        refine ex_aload_s hΦ dL_law_667 rfl ?_
        refine ex_iload_n hΦ dL_law_668 rfl ?_
        refine ex_iconst hΦ dL_law_669 ?_
        refine ex_iadd hΦ dL_law_670 ?_
        refine ex_sald hΦ hS o153 o154 hn dL_law_671 ?_
        refine ex_callVi [(0, ((xs (Int.toNat (x3 + 1))).toInt)), (0, ((xs (Int.toNat (x3 + 2))).toInt))] [(0, ((xs (Int.toNat (x3 + 2))).toInt)), (0, ((xs (Int.toNat (x3 + 1))).toInt)), (2, x2), (0, r155)] hΦ lkV_L_89 ⟨by decide, by decide⟩ (Nat.le_of_ble_eq_true rfl) rfl (by decide) 8 (by decide) rfl o156 dL_law_672 rfl h (fun r157 μ157 h => ?_)
        obtain ⟨o158, h⟩ := h
        obtain ⟨o159, h⟩ := h
        refine ex_icmp_eq 1135 hΦ dL_law_675 (by decide) o158 o159 (fun c => ?_) (fun c => ?_)
        · have h := h.1 c
          refine ex_iinc (L' := [some (3, x0), some (2, x1), some (2, x2), some (0, (x3 + 5))]) hΦ dL_law_1135 rfl (by decide) rfl ?_
          refine ex_goto 18 hΦ dL_law_1138 (by decide) ?_
          exact h
        · have h := h.2 c
          refine ex_iconst hΦ dL_law_678 ?_
          exact h.elim
      | 18, _ =>
        refine ⟨_, 680, by rw [hx]; rfl, by decide, ?_⟩
        have h := h.2.2.2.2.2.2.2.2.2.2.2.2.2.2.2.2.2.2.1 (by rw [hx]; rfl)
        obtain ⟨o160, h⟩ := h
        refine ex_aload_n hΦ dL_law_680 rfl o160.1 ?_
        refine ex_aload_s hΦ dL_law_681 rfl ?_
        refine ex_iload_n hΦ dL_law_682 rfl ?_
        refine ex_iconst hΦ dL_law_683 ?_
        refine ex_iadd hΦ dL_law_684 ?_
        obtain ⟨o161, h⟩ := h
        obtain ⟨o162, h⟩ := h
        refine ex_sald hΦ hS o161 o162 hn dL_law_685 ?_
        refine ex_aload_s hΦ dL_law_686 rfl ?_
        refine ex_iload_n hΦ dL_law_687 rfl ?_
        refine ex_iconst hΦ dL_law_688 ?_
        refine ex_iadd hΦ dL_law_689 ?_
        obtain ⟨o163, h⟩ := h
        obtain ⟨o164, h⟩ := h
        refine ex_sald hΦ hS o163 o164 hn dL_law_690 ?_
        refine ex_aload_s hΦ dL_law_691 rfl ?_
        refine ex_iload_n hΦ dL_law_692 rfl ?_
        refine ex_iconst hΦ dL_law_693 ?_
        refine ex_iadd hΦ dL_law_694 ?_
        obtain ⟨o165, h⟩ := h
        obtain ⟨o166, h⟩ := h
        refine ex_sald hΦ hS o165 o166 hn dL_law_695 ?_
        refine ex_callVi [(0, ((xs (Int.toNat (x3 + 1))).toInt)), (0, ((xs (Int.toNat (x3 + 2))).toInt)), (0, ((xs (Int.toNat (x3 + 3))).toInt))] [(0, ((xs (Int.toNat (x3 + 3))).toInt)), (0, ((xs (Int.toNat (x3 + 2))).toInt)), (0, ((xs (Int.toNat (x3 + 1))).toInt)), (2, x1)] hΦ lkV_L_90 ⟨by decide, by decide⟩ (Nat.le_of_ble_eq_true rfl) rfl (by decide) 7 (by decide) rfl o160 dL_law_696 rfl h (fun r167 μ167 h => ?_)
        obtain ⟨o168, h⟩ := h
        refine ex_aload_n hΦ dL_law_699 rfl o168.1 ?_
        refine ex_aload_s hΦ dL_law_700 rfl ?_
        refine ex_iload_n hΦ dL_law_701 rfl ?_
        refine ex_iconst hΦ dL_law_702 ?_
        refine ex_iadd hΦ dL_law_703 ?_
        refine ex_sald hΦ hS o161 o162 hn dL_law_704 ?_
        refine ex_aload_s hΦ dL_law_705 rfl ?_
        refine ex_iload_n hΦ dL_law_706 rfl ?_
        refine ex_iconst hΦ dL_law_707 ?_
        refine ex_iadd hΦ dL_law_708 ?_
        refine ex_sald hΦ hS o163 o164 hn dL_law_709 ?_
        refine ex_aload_s hΦ dL_law_710 rfl ?_
        refine ex_iload_n hΦ dL_law_711 rfl ?_
        refine ex_iconst hΦ dL_law_712 ?_
        refine ex_iadd hΦ dL_law_713 ?_
        refine ex_sald hΦ hS o165 o166 hn dL_law_714 ?_
        refine ex_callVi [(0, ((xs (Int.toNat (x3 + 1))).toInt)), (0, ((xs (Int.toNat (x3 + 2))).toInt)), (0, ((xs (Int.toNat (x3 + 3))).toInt))] [(0, ((xs (Int.toNat (x3 + 3))).toInt)), (0, ((xs (Int.toNat (x3 + 2))).toInt)), (0, ((xs (Int.toNat (x3 + 1))).toInt)), (2, x2), (0, r167)] hΦ lkV_L_94 ⟨by decide, by decide⟩ (Nat.le_of_ble_eq_true rfl) rfl (by decide) 8 (by decide) rfl o168 dL_law_715 rfl h (fun r169 μ169 h => ?_)
        obtain ⟨o170, h⟩ := h
        obtain ⟨o171, h⟩ := h
        refine ex_icmp_eq 1135 hΦ dL_law_718 (by decide) o170 o171 (fun c => ?_) (fun c => ?_)
        · have h := h.1 c
          refine ex_iinc (L' := [some (3, x0), some (2, x1), some (2, x2), some (0, (x3 + 5))]) hΦ dL_law_1135 rfl (by decide) rfl ?_
          refine ex_goto 18 hΦ dL_law_1138 (by decide) ?_
          exact h
        · have h := h.2 c
          refine ex_iconst hΦ dL_law_721 ?_
          exact h.elim
      | 19, _ =>
        refine ⟨_, 723, by rw [hx]; rfl, by decide, ?_⟩
        have h := h.2.2.2.2.2.2.2.2.2.2.2.2.2.2.2.2.2.2.2.1 (by rw [hx]; rfl)
        obtain ⟨o172, h⟩ := h
        refine ex_aload_n hΦ dL_law_723 rfl o172.1 ?_
        refine ex_aload_s hΦ dL_law_724 rfl ?_
        refine ex_iload_n hΦ dL_law_725 rfl ?_
        refine ex_iconst hΦ dL_law_726 ?_
        refine ex_iadd hΦ dL_law_727 ?_
        obtain ⟨o173, h⟩ := h
        obtain ⟨o174, h⟩ := h
        refine ex_sald hΦ hS o173 o174 hn dL_law_728 ?_
        refine ex_callVi [(0, ((xs (Int.toNat (x3 + 1))).toInt))] [(0, ((xs (Int.toNat (x3 + 1))).toInt)), (2, x1)] hΦ lkV_L_95 ⟨by decide, by decide⟩ (Nat.le_of_ble_eq_true rfl) rfl (by decide) 7 (by decide) rfl o172 dL_law_729 rfl h (fun r175 μ175 h => ?_)
        obtain ⟨o176, h⟩ := h
        refine ex_aload_n hΦ dL_law_732 rfl o176.1 ?_
        refine ex_aload_s hΦ dL_law_733 rfl ?_
        refine ex_iload_n hΦ dL_law_734 rfl ?_
        refine ex_iconst hΦ dL_law_735 ?_
        refine ex_iadd hΦ dL_law_736 ?_
        refine ex_sald hΦ hS o173 o174 hn dL_law_737 ?_
        refine ex_callVi [(0, ((xs (Int.toNat (x3 + 1))).toInt))] [(0, ((xs (Int.toNat (x3 + 1))).toInt)), (2, x2), (0, r175)] hΦ lkV_L_98 ⟨by decide, by decide⟩ (Nat.le_of_ble_eq_true rfl) rfl (by decide) 8 (by decide) rfl o176 dL_law_738 rfl h (fun r177 μ177 h => ?_)
        obtain ⟨o178, h⟩ := h
        obtain ⟨o179, h⟩ := h
        refine ex_icmp_eq 1135 hΦ dL_law_741 (by decide) o178 o179 (fun c => ?_) (fun c => ?_)
        · have h := h.1 c
          refine ex_iinc (L' := [some (3, x0), some (2, x1), some (2, x2), some (0, (x3 + 5))]) hΦ dL_law_1135 rfl (by decide) rfl ?_
          refine ex_goto 18 hΦ dL_law_1138 (by decide) ?_
          exact h
        · have h := h.2 c
          refine ex_iconst hΦ dL_law_744 ?_
          exact h.elim
      | 20, _ =>
        refine ⟨_, 746, by rw [hx]; rfl, by decide, ?_⟩
        have h := h.2.2.2.2.2.2.2.2.2.2.2.2.2.2.2.2.2.2.2.2.1 (by rw [hx]; rfl)
        obtain ⟨o180, h⟩ := h
        refine ex_aload_n hΦ dL_law_746 rfl o180.1 ?_
        refine ex_aload_s hΦ dL_law_747 rfl ?_
        refine ex_iload_n hΦ dL_law_748 rfl ?_
        refine ex_iconst hΦ dL_law_749 ?_
        refine ex_iadd hΦ dL_law_750 ?_
        obtain ⟨o181, h⟩ := h
        obtain ⟨o182, h⟩ := h
        refine ex_sald hΦ hS o181 o182 hn dL_law_751 ?_
        refine ex_aload_s hΦ dL_law_752 rfl ?_
        refine ex_iload_n hΦ dL_law_753 rfl ?_
        refine ex_iconst hΦ dL_law_754 ?_
        refine ex_iadd hΦ dL_law_755 ?_
        obtain ⟨o183, h⟩ := h
        obtain ⟨o184, h⟩ := h
        refine ex_sald hΦ hS o183 o184 hn dL_law_756 ?_
        refine ex_callVi [(0, ((xs (Int.toNat (x3 + 1))).toInt)), (0, ((xs (Int.toNat (x3 + 2))).toInt))] [(0, ((xs (Int.toNat (x3 + 2))).toInt)), (0, ((xs (Int.toNat (x3 + 1))).toInt)), (2, x1)] hΦ lkV_L_99 ⟨by decide, by decide⟩ (Nat.le_of_ble_eq_true rfl) rfl (by decide) 7 (by decide) rfl o180 dL_law_757 rfl h (fun r185 μ185 h => ?_)
        obtain ⟨o186, h⟩ := h
        refine ex_aload_n hΦ dL_law_760 rfl o186.1 ?_
        refine ex_aload_s hΦ dL_law_761 rfl ?_
        refine ex_iload_n hΦ dL_law_762 rfl ?_
        refine ex_iconst hΦ dL_law_763 ?_
        refine ex_iadd hΦ dL_law_764 ?_
        refine ex_sald hΦ hS o181 o182 hn dL_law_765 ?_
        refine ex_aload_s hΦ dL_law_766 rfl ?_
        refine ex_iload_n hΦ dL_law_767 rfl ?_
        refine ex_iconst hΦ dL_law_768 ?_
        refine ex_iadd hΦ dL_law_769 ?_
        refine ex_sald hΦ hS o183 o184 hn dL_law_770 ?_
        refine ex_callVi [(0, ((xs (Int.toNat (x3 + 1))).toInt)), (0, ((xs (Int.toNat (x3 + 2))).toInt))] [(0, ((xs (Int.toNat (x3 + 2))).toInt)), (0, ((xs (Int.toNat (x3 + 1))).toInt)), (2, x2), (0, r185)] hΦ lkV_L_102 ⟨by decide, by decide⟩ (Nat.le_of_ble_eq_true rfl) rfl (by decide) 8 (by decide) rfl o186 dL_law_771 rfl h (fun r187 μ187 h => ?_)
        obtain ⟨o188, h⟩ := h
        obtain ⟨o189, h⟩ := h
        refine ex_icmp_eq 1135 hΦ dL_law_774 (by decide) o188 o189 (fun c => ?_) (fun c => ?_)
        · have h := h.1 c
          refine ex_iinc (L' := [some (3, x0), some (2, x1), some (2, x2), some (0, (x3 + 5))]) hΦ dL_law_1135 rfl (by decide) rfl ?_
          refine ex_goto 18 hΦ dL_law_1138 (by decide) ?_
          exact h
        · have h := h.2 c
          refine ex_iconst hΦ dL_law_777 ?_
          exact h.elim
      | 21, _ =>
        refine ⟨_, 779, by rw [hx]; rfl, by decide, ?_⟩
        have h := h.2.2.2.2.2.2.2.2.2.2.2.2.2.2.2.2.2.2.2.2.2.1 (by rw [hx]; rfl)
        obtain ⟨o190, h⟩ := h
        refine ex_aload_n hΦ dL_law_779 rfl o190.1 ?_
        refine ex_aload_s hΦ dL_law_780 rfl ?_
        refine ex_iload_n hΦ dL_law_781 rfl ?_
        refine ex_iconst hΦ dL_law_782 ?_
        refine ex_iadd hΦ dL_law_783 ?_
        obtain ⟨o191, h⟩ := h
        obtain ⟨o192, h⟩ := h
        refine ex_sald hΦ hS o191 o192 hn dL_law_784 ?_
        refine ex_aload_s hΦ dL_law_785 rfl ?_
        refine ex_iload_n hΦ dL_law_786 rfl ?_
        refine ex_iconst hΦ dL_law_787 ?_
        refine ex_iadd hΦ dL_law_788 ?_
        obtain ⟨o193, h⟩ := h
        obtain ⟨o194, h⟩ := h
        refine ex_sald hΦ hS o193 o194 hn dL_law_789 ?_
        refine ex_callVi [(0, ((xs (Int.toNat (x3 + 1))).toInt)), (0, ((xs (Int.toNat (x3 + 2))).toInt))] [(0, ((xs (Int.toNat (x3 + 2))).toInt)), (0, ((xs (Int.toNat (x3 + 1))).toInt)), (2, x1)] hΦ lkV_L_103 ⟨by decide, by decide⟩ (Nat.le_of_ble_eq_true rfl) rfl (by decide) 7 (by decide) rfl o190 dL_law_790 rfl h (fun r195 μ195 h => ?_)
        obtain ⟨o196, h⟩ := h
        refine ex_aload_n hΦ dL_law_793 rfl o196.1 ?_
        refine ex_aload_s hΦ dL_law_794 rfl ?_
        refine ex_iload_n hΦ dL_law_795 rfl ?_
        refine ex_iconst hΦ dL_law_796 ?_
        refine ex_iadd hΦ dL_law_797 ?_
        refine ex_sald hΦ hS o191 o192 hn dL_law_798 ?_
        refine ex_aload_s hΦ dL_law_799 rfl ?_
        refine ex_iload_n hΦ dL_law_800 rfl ?_
        refine ex_iconst hΦ dL_law_801 ?_
        refine ex_iadd hΦ dL_law_802 ?_
        refine ex_sald hΦ hS o193 o194 hn dL_law_803 ?_
        refine ex_callVi [(0, ((xs (Int.toNat (x3 + 1))).toInt)), (0, ((xs (Int.toNat (x3 + 2))).toInt))] [(0, ((xs (Int.toNat (x3 + 2))).toInt)), (0, ((xs (Int.toNat (x3 + 1))).toInt)), (2, x2), (0, r195)] hΦ lkV_L_106 ⟨by decide, by decide⟩ (Nat.le_of_ble_eq_true rfl) rfl (by decide) 8 (by decide) rfl o196 dL_law_804 rfl h (fun r197 μ197 h => ?_)
        obtain ⟨o198, h⟩ := h
        obtain ⟨o199, h⟩ := h
        refine ex_icmp_eq 1135 hΦ dL_law_807 (by decide) o198 o199 (fun c => ?_) (fun c => ?_)
        · have h := h.1 c
          refine ex_iinc (L' := [some (3, x0), some (2, x1), some (2, x2), some (0, (x3 + 5))]) hΦ dL_law_1135 rfl (by decide) rfl ?_
          refine ex_goto 18 hΦ dL_law_1138 (by decide) ?_
          exact h
        · have h := h.2 c
          refine ex_iconst hΦ dL_law_810 ?_
          exact h.elim
      | 22, _ =>
        refine ⟨_, 812, by rw [hx]; rfl, by decide, ?_⟩
        have h := h.2.2.2.2.2.2.2.2.2.2.2.2.2.2.2.2.2.2.2.2.2.2.1 (by rw [hx]; rfl)
        obtain ⟨o200, h⟩ := h
        refine ex_aload_n hΦ dL_law_812 rfl o200.1 ?_
        refine ex_aload_s hΦ dL_law_813 rfl ?_
        refine ex_iload_n hΦ dL_law_814 rfl ?_
        refine ex_iconst hΦ dL_law_815 ?_
        refine ex_iadd hΦ dL_law_816 ?_
        obtain ⟨o201, h⟩ := h
        obtain ⟨o202, h⟩ := h
        refine ex_sald hΦ hS o201 o202 hn dL_law_817 ?_
        refine ex_aload_s hΦ dL_law_818 rfl ?_
        refine ex_iload_n hΦ dL_law_819 rfl ?_
        refine ex_iconst hΦ dL_law_820 ?_
        refine ex_iadd hΦ dL_law_821 ?_
        obtain ⟨o203, h⟩ := h
        obtain ⟨o204, h⟩ := h
        refine ex_sald hΦ hS o203 o204 hn dL_law_822 ?_
        refine ex_callVi [(0, ((xs (Int.toNat (x3 + 1))).toInt)), (0, ((xs (Int.toNat (x3 + 2))).toInt))] [(0, ((xs (Int.toNat (x3 + 2))).toInt)), (0, ((xs (Int.toNat (x3 + 1))).toInt)), (2, x1)] hΦ lkV_L_107 ⟨by decide, by decide⟩ (Nat.le_of_ble_eq_true rfl) rfl (by decide) 7 (by decide) rfl o200 dL_law_823 rfl h (fun r205 μ205 h => ?_)
        obtain ⟨o206, h⟩ := h
        refine ex_aload_n hΦ dL_law_826 rfl o206.1 ?_
        refine ex_aload_s hΦ dL_law_827 rfl ?_
        refine ex_iload_n hΦ dL_law_828 rfl ?_
        refine ex_iconst hΦ dL_law_829 ?_
        refine ex_iadd hΦ dL_law_830 ?_
        refine ex_sald hΦ hS o201 o202 hn dL_law_831 ?_
        refine ex_aload_s hΦ dL_law_832 rfl ?_
        refine ex_iload_n hΦ dL_law_833 rfl ?_
        refine ex_iconst hΦ dL_law_834 ?_
        refine ex_iadd hΦ dL_law_835 ?_
        refine ex_sald hΦ hS o203 o204 hn dL_law_836 ?_
        refine ex_callVi [(0, ((xs (Int.toNat (x3 + 1))).toInt)), (0, ((xs (Int.toNat (x3 + 2))).toInt))] [(0, ((xs (Int.toNat (x3 + 2))).toInt)), (0, ((xs (Int.toNat (x3 + 1))).toInt)), (2, x2), (0, r205)] hΦ lkV_L_110 ⟨by decide, by decide⟩ (Nat.le_of_ble_eq_true rfl) rfl (by decide) 8 (by decide) rfl o206 dL_law_837 rfl h (fun r207 μ207 h => ?_)
        obtain ⟨o208, h⟩ := h
        obtain ⟨o209, h⟩ := h
        refine ex_icmp_eq 1135 hΦ dL_law_840 (by decide) o208 o209 (fun c => ?_) (fun c => ?_)
        · have h := h.1 c
          refine ex_iinc (L' := [some (3, x0), some (2, x1), some (2, x2), some (0, (x3 + 5))]) hΦ dL_law_1135 rfl (by decide) rfl ?_
          refine ex_goto 18 hΦ dL_law_1138 (by decide) ?_
          exact h
        · have h := h.2 c
          refine ex_iconst hΦ dL_law_843 ?_
          exact h.elim
      | 23, _ =>
        refine ⟨_, 845, by rw [hx]; rfl, by decide, ?_⟩
        have h := h.2.2.2.2.2.2.2.2.2.2.2.2.2.2.2.2.2.2.2.2.2.2.2.1 (by rw [hx]; rfl)
        obtain ⟨o210, h⟩ := h
        refine ex_aload_n hΦ dL_law_845 rfl o210.1 ?_
        refine ex_aload_s hΦ dL_law_846 rfl ?_
        refine ex_iload_n hΦ dL_law_847 rfl ?_
        refine ex_iconst hΦ dL_law_848 ?_
        refine ex_iadd hΦ dL_law_849 ?_
        obtain ⟨o211, h⟩ := h
        obtain ⟨o212, h⟩ := h
        refine ex_sald hΦ hS o211 o212 hn dL_law_850 ?_
        refine ex_aload_s hΦ dL_law_851 rfl ?_
        refine ex_iload_n hΦ dL_law_852 rfl ?_
        refine ex_iconst hΦ dL_law_853 ?_
        refine ex_iadd hΦ dL_law_854 ?_
        obtain ⟨o213, h⟩ := h
        obtain ⟨o214, h⟩ := h
        refine ex_sald hΦ hS o213 o214 hn dL_law_855 ?_
        refine ex_aload_s hΦ dL_law_856 rfl ?_
        refine ex_iload_n hΦ dL_law_857 rfl ?_
        refine ex_iconst hΦ dL_law_858 ?_
        refine ex_iadd hΦ dL_law_859 ?_
        obtain ⟨o215, h⟩ := h
        obtain ⟨o216, h⟩ := h
        refine ex_sald hΦ hS o215 o216 hn dL_law_860 ?_
        refine ex_aload_s hΦ dL_law_861 rfl ?_
        refine ex_iload_n hΦ dL_law_862 rfl ?_
        refine ex_iconst hΦ dL_law_863 ?_
        refine ex_iadd hΦ dL_law_864 ?_
        obtain ⟨o217, h⟩ := h
        obtain ⟨o218, h⟩ := h
        refine ex_sald hΦ hS o217 o218 hn dL_law_865 ?_
        refine ex_callVi [(0, ((xs (Int.toNat (x3 + 1))).toInt)), (0, ((xs (Int.toNat (x3 + 2))).toInt)), (0, ((xs (Int.toNat (x3 + 3))).toInt)), (0, ((xs (Int.toNat (x3 + 4))).toInt))] [(0, ((xs (Int.toNat (x3 + 4))).toInt)), (0, ((xs (Int.toNat (x3 + 3))).toInt)), (0, ((xs (Int.toNat (x3 + 2))).toInt)), (0, ((xs (Int.toNat (x3 + 1))).toInt)), (2, x1)] hΦ lkV_L_111 ⟨by decide, by decide⟩ (Nat.le_of_ble_eq_true rfl) rfl (by decide) 7 (by decide) rfl o210 dL_law_866 rfl h (fun r219 μ219 h => ?_)
        obtain ⟨o220, h⟩ := h
        refine ex_aload_n hΦ dL_law_869 rfl o220.1 ?_
        refine ex_aload_s hΦ dL_law_870 rfl ?_
        refine ex_iload_n hΦ dL_law_871 rfl ?_
        refine ex_iconst hΦ dL_law_872 ?_
        refine ex_iadd hΦ dL_law_873 ?_
        refine ex_sald hΦ hS o211 o212 hn dL_law_874 ?_
        refine ex_aload_s hΦ dL_law_875 rfl ?_
        refine ex_iload_n hΦ dL_law_876 rfl ?_
        refine ex_iconst hΦ dL_law_877 ?_
        refine ex_iadd hΦ dL_law_878 ?_
        refine ex_sald hΦ hS o213 o214 hn dL_law_879 ?_
        refine ex_aload_s hΦ dL_law_880 rfl ?_
        refine ex_iload_n hΦ dL_law_881 rfl ?_
        refine ex_iconst hΦ dL_law_882 ?_
        refine ex_iadd hΦ dL_law_883 ?_
        refine ex_sald hΦ hS o215 o216 hn dL_law_884 ?_
        refine ex_aload_s hΦ dL_law_885 rfl ?_
        refine ex_iload_n hΦ dL_law_886 rfl ?_
        refine ex_iconst hΦ dL_law_887 ?_
        refine ex_iadd hΦ dL_law_888 ?_
        refine ex_sald hΦ hS o217 o218 hn dL_law_889 ?_
        refine ex_callVi [(0, ((xs (Int.toNat (x3 + 1))).toInt)), (0, ((xs (Int.toNat (x3 + 2))).toInt)), (0, ((xs (Int.toNat (x3 + 3))).toInt)), (0, ((xs (Int.toNat (x3 + 4))).toInt))] [(0, ((xs (Int.toNat (x3 + 4))).toInt)), (0, ((xs (Int.toNat (x3 + 3))).toInt)), (0, ((xs (Int.toNat (x3 + 2))).toInt)), (0, ((xs (Int.toNat (x3 + 1))).toInt)), (2, x2), (0, r219)] hΦ lkV_L_114 ⟨by decide, by decide⟩ (Nat.le_of_ble_eq_true rfl) rfl (by decide) 8 (by decide) rfl o220 dL_law_890 rfl h (fun r221 μ221 h => ?_)
        obtain ⟨o222, h⟩ := h
        obtain ⟨o223, h⟩ := h
        refine ex_icmp_eq 1135 hΦ dL_law_893 (by decide) o222 o223 (fun c => ?_) (fun c => ?_)
        · have h := h.1 c
          refine ex_iinc (L' := [some (3, x0), some (2, x1), some (2, x2), some (0, (x3 + 5))]) hΦ dL_law_1135 rfl (by decide) rfl ?_
          refine ex_goto 18 hΦ dL_law_1138 (by decide) ?_
          exact h
        · have h := h.2 c
          refine ex_iconst hΦ dL_law_896 ?_
          exact h.elim
      | 24, _ =>
        refine ⟨_, 898, by rw [hx]; rfl, by decide, ?_⟩
        have h := h.2.2.2.2.2.2.2.2.2.2.2.2.2.2.2.2.2.2.2.2.2.2.2.2.1 (by rw [hx]; rfl)
        obtain ⟨o224, h⟩ := h
        refine ex_aload_n hΦ dL_law_898 rfl o224.1 ?_
        refine ex_aload_s hΦ dL_law_899 rfl ?_
        refine ex_iload_n hΦ dL_law_900 rfl ?_
        refine ex_iconst hΦ dL_law_901 ?_
        refine ex_iadd hΦ dL_law_902 ?_
        obtain ⟨o225, h⟩ := h
        obtain ⟨o226, h⟩ := h
        refine ex_sald hΦ hS o225 o226 hn dL_law_903 ?_
        refine ex_aload_s hΦ dL_law_904 rfl ?_
        refine ex_iload_n hΦ dL_law_905 rfl ?_
        refine ex_iconst hΦ dL_law_906 ?_
        refine ex_iadd hΦ dL_law_907 ?_
        obtain ⟨o227, h⟩ := h
        obtain ⟨o228, h⟩ := h
        refine ex_sald hΦ hS o227 o228 hn dL_law_908 ?_
        refine ex_aload_s hΦ dL_law_909 rfl ?_
        refine ex_iload_n hΦ dL_law_910 rfl ?_
        refine ex_iconst hΦ dL_law_911 ?_
        refine ex_iadd hΦ dL_law_912 ?_
        obtain ⟨o229, h⟩ := h
        obtain ⟨o230, h⟩ := h
        refine ex_sald hΦ hS o229 o230 hn dL_law_913 ?_
        refine ex_callVi [(0, ((xs (Int.toNat (x3 + 1))).toInt)), (0, ((xs (Int.toNat (x3 + 2))).toInt)), (0, ((xs (Int.toNat (x3 + 3))).toInt))] [(0, ((xs (Int.toNat (x3 + 3))).toInt)), (0, ((xs (Int.toNat (x3 + 2))).toInt)), (0, ((xs (Int.toNat (x3 + 1))).toInt)), (2, x1)] hΦ lkV_L_115 ⟨by decide, by decide⟩ (Nat.le_of_ble_eq_true rfl) rfl (by decide) 7 (by decide) rfl o224 dL_law_914 rfl h (fun r231 μ231 h => ?_)
        obtain ⟨o232, h⟩ := h
        refine ex_aload_n hΦ dL_law_917 rfl o232.1 ?_
        refine ex_aload_s hΦ dL_law_918 rfl ?_
        refine ex_iload_n hΦ dL_law_919 rfl ?_
        refine ex_iconst hΦ dL_law_920 ?_
        refine ex_iadd hΦ dL_law_921 ?_
        refine ex_sald hΦ hS o225 o226 hn dL_law_922 ?_
        refine ex_aload_s hΦ dL_law_923 rfl ?_
        refine ex_iload_n hΦ dL_law_924 rfl ?_
        refine ex_iconst hΦ dL_law_925 ?_
        refine ex_iadd hΦ dL_law_926 ?_
        refine ex_sald hΦ hS o227 o228 hn dL_law_927 ?_
        refine ex_aload_s hΦ dL_law_928 rfl ?_
        refine ex_iload_n hΦ dL_law_929 rfl ?_
        refine ex_iconst hΦ dL_law_930 ?_
        refine ex_iadd hΦ dL_law_931 ?_
        refine ex_sald hΦ hS o229 o230 hn dL_law_932 ?_
        refine ex_callVi [(0, ((xs (Int.toNat (x3 + 1))).toInt)), (0, ((xs (Int.toNat (x3 + 2))).toInt)), (0, ((xs (Int.toNat (x3 + 3))).toInt))] [(0, ((xs (Int.toNat (x3 + 3))).toInt)), (0, ((xs (Int.toNat (x3 + 2))).toInt)), (0, ((xs (Int.toNat (x3 + 1))).toInt)), (2, x2), (0, r231)] hΦ lkV_L_118 ⟨by decide, by decide⟩ (Nat.le_of_ble_eq_true rfl) rfl (by decide) 8 (by decide) rfl o232 dL_law_933 rfl h (fun r233 μ233 h => ?_)
        obtain ⟨o234, h⟩ := h
        obtain ⟨o235, h⟩ := h
        refine ex_icmp_eq 1135 hΦ dL_law_936 (by decide) o234 o235 (fun c => ?_) (fun c => ?_)
        · have h := h.1 c
          refine ex_iinc (L' := [some (3, x0), some (2, x1), some (2, x2), some (0, (x3 + 5))]) hΦ dL_law_1135 rfl (by decide) rfl ?_
          refine ex_goto 18 hΦ dL_law_1138 (by decide) ?_
          exact h
        · have h := h.2 c
          refine ex_iconst hΦ dL_law_939 ?_
          exact h.elim
      | 25, _ =>
        refine ⟨_, 941, by rw [hx]; rfl, by decide, ?_⟩
        have h := h.2.2.2.2.2.2.2.2.2.2.2.2.2.2.2.2.2.2.2.2.2.2.2.2.2.1 (by rw [hx]; rfl)
        obtain ⟨o236, h⟩ := h
        refine ex_aload_n hΦ dL_law_941 rfl o236.1 ?_
        refine ex_aload_s hΦ dL_law_942 rfl ?_
        refine ex_iload_n hΦ dL_law_943 rfl ?_
        refine ex_iconst hΦ dL_law_944 ?_
        refine ex_iadd hΦ dL_law_945 ?_
        obtain ⟨o237, h⟩ := h
        obtain ⟨o238, h⟩ := h
        refine ex_sald hΦ hS o237 o238 hn dL_law_946 ?_
        refine ex_aload_s hΦ dL_law_947 rfl ?_
        refine ex_iload_n hΦ dL_law_948 rfl ?_
        refine ex_iconst hΦ dL_law_949 ?_
        refine ex_iadd hΦ dL_law_950 ?_
        obtain ⟨o239, h⟩ := h
        obtain ⟨o240, h⟩ := h
        refine ex_sald hΦ hS o239 o240 hn dL_law_951 ?_
        refine ex_callVi [(0, ((xs (Int.toNat (x3 + 1))).toInt)), (0, ((xs (Int.toNat (x3 + 2))).toInt))] [(0, ((xs (Int.toNat (x3 + 2))).toInt)), (0, ((xs (Int.toNat (x3 + 1))).toInt)), (2, x1)] hΦ lkV_L_119 ⟨by decide, by decide⟩ (Nat.le_of_ble_eq_true rfl) rfl (by decide) 7 (by decide) rfl o236 dL_law_952 rfl h (fun r241 μ241 h => ?_)
        obtain ⟨o242, h⟩ := h
        refine ex_aload_n hΦ dL_law_955 rfl o242.1 ?_
        refine ex_aload_s hΦ dL_law_956 rfl ?_
        refine ex_iload_n hΦ dL_law_957 rfl ?_
        refine ex_iconst hΦ dL_law_958 ?_
        refine ex_iadd hΦ dL_law_959 ?_
        refine ex_sald hΦ hS o237 o238 hn dL_law_960 ?_
        refine ex_aload_s hΦ dL_law_961 rfl ?_
        refine ex_iload_n hΦ dL_law_962 rfl ?_
        refine ex_iconst hΦ dL_law_963 ?_
        refine ex_iadd hΦ dL_law_964 ?_
        refine ex_sald hΦ hS o239 o240 hn dL_law_965 ?_
        refine ex_callVi [(0, ((xs (Int.toNat (x3 + 1))).toInt)), (0, ((xs (Int.toNat (x3 + 2))).toInt))] [(0, ((xs (Int.toNat (x3 + 2))).toInt)), (0, ((xs (Int.toNat (x3 + 1))).toInt)), (2, x2), (0, r241)] hΦ lkV_L_122 ⟨by decide, by decide⟩ (Nat.le_of_ble_eq_true rfl) rfl (by decide) 8 (by decide) rfl o242 dL_law_966 rfl h (fun r243 μ243 h => ?_)
        obtain ⟨o244, h⟩ := h
        obtain ⟨o245, h⟩ := h
        refine ex_icmp_eq 1135 hΦ dL_law_969 (by decide) o244 o245 (fun c => ?_) (fun c => ?_)
        · have h := h.1 c
          refine ex_iinc (L' := [some (3, x0), some (2, x1), some (2, x2), some (0, (x3 + 5))]) hΦ dL_law_1135 rfl (by decide) rfl ?_
          refine ex_goto 18 hΦ dL_law_1138 (by decide) ?_
          exact h
        · have h := h.2 c
          refine ex_iconst hΦ dL_law_972 ?_
          exact h.elim
      | 26, _ =>
        refine ⟨_, 974, by rw [hx]; rfl, by decide, ?_⟩
        have h := h.2.2.2.2.2.2.2.2.2.2.2.2.2.2.2.2.2.2.2.2.2.2.2.2.2.2.1 (by rw [hx]; rfl)
        obtain ⟨o246, h⟩ := h
        refine ex_aload_n hΦ dL_law_974 rfl o246.1 ?_
        refine ex_aload_s hΦ dL_law_975 rfl ?_
        refine ex_iload_n hΦ dL_law_976 rfl ?_
        refine ex_iconst hΦ dL_law_977 ?_
        refine ex_iadd hΦ dL_law_978 ?_
        obtain ⟨o247, h⟩ := h
        obtain ⟨o248, h⟩ := h
        refine ex_sald hΦ hS o247 o248 hn dL_law_979 ?_
        refine ex_callVi [(0, ((xs (Int.toNat (x3 + 1))).toInt))] [(0, ((xs (Int.toNat (x3 + 1))).toInt)), (2, x1)] hΦ lkV_L_123 ⟨by decide, by decide⟩ (Nat.le_of_ble_eq_true rfl) rfl (by decide) 7 (by decide) rfl o246 dL_law_980 rfl h (fun r249 μ249 h => ?_)
        obtain ⟨o250, h⟩ := h
        refine ex_aload_n hΦ dL_law_983 rfl o250.1 ?_
        refine ex_aload_s hΦ dL_law_984 rfl ?_
        refine ex_iload_n hΦ dL_law_985 rfl ?_
        refine ex_iconst hΦ dL_law_986 ?_
        refine ex_iadd hΦ dL_law_987 ?_
        refine ex_sald hΦ hS o247 o248 hn dL_law_988 ?_
        refine ex_callVi [(0, ((xs (Int.toNat (x3 + 1))).toInt))] [(0, ((xs (Int.toNat (x3 + 1))).toInt)), (2, x2), (0, r249)] hΦ lkV_L_126 ⟨by decide, by decide⟩ (Nat.le_of_ble_eq_true rfl) rfl (by decide) 8 (by decide) rfl o250 dL_law_989 rfl h (fun r251 μ251 h => ?_)
        obtain ⟨o252, h⟩ := h
        obtain ⟨o253, h⟩ := h
        refine ex_icmp_eq 1135 hΦ dL_law_992 (by decide) o252 o253 (fun c => ?_) (fun c => ?_)
        · have h := h.1 c
          refine ex_iinc (L' := [some (3, x0), some (2, x1), some (2, x2), some (0, (x3 + 5))]) hΦ dL_law_1135 rfl (by decide) rfl ?_
          refine ex_goto 18 hΦ dL_law_1138 (by decide) ?_
          exact h
        · have h := h.2 c
          refine ex_iconst hΦ dL_law_995 ?_
          exact h.elim
      | 27, _ =>
        refine ⟨_, 997, by rw [hx]; rfl, by decide, ?_⟩
        have h := h.2.2.2.2.2.2.2.2.2.2.2.2.2.2.2.2.2.2.2.2.2.2.2.2.2.2.2.1 (by rw [hx]; rfl)
        obtain ⟨o254, h⟩ := h
        refine ex_aload_n hΦ dL_law_997 rfl o254.1 ?_
        refine ex_aload_s hΦ dL_law_998 rfl ?_
        refine ex_iload_n hΦ dL_law_999 rfl ?_
        refine ex_iconst hΦ dL_law_1000 ?_
        refine ex_iadd hΦ dL_law_1001 ?_
        obtain ⟨o255, h⟩ := h
        obtain ⟨o256, h⟩ := h
        refine ex_sald hΦ hS o255 o256 hn dL_law_1002 ?_
        refine ex_aload_s hΦ dL_law_1003 rfl ?_
        refine ex_iload_n hΦ dL_law_1004 rfl ?_
        refine ex_iconst hΦ dL_law_1005 ?_
        refine ex_iadd hΦ dL_law_1006 ?_
        obtain ⟨o257, h⟩ := h
        obtain ⟨o258, h⟩ := h
        refine ex_sald hΦ hS o257 o258 hn dL_law_1007 ?_
        refine ex_aload_s hΦ dL_law_1008 rfl ?_
        refine ex_iload_n hΦ dL_law_1009 rfl ?_
        refine ex_iconst hΦ dL_law_1010 ?_
        refine ex_iadd hΦ dL_law_1011 ?_
        obtain ⟨o259, h⟩ := h
        obtain ⟨o260, h⟩ := h
        refine ex_sald hΦ hS o259 o260 hn dL_law_1012 ?_
        refine ex_callVi [(0, ((xs (Int.toNat (x3 + 1))).toInt)), (0, ((xs (Int.toNat (x3 + 2))).toInt)), (0, ((xs (Int.toNat (x3 + 3))).toInt))] [(0, ((xs (Int.toNat (x3 + 3))).toInt)), (0, ((xs (Int.toNat (x3 + 2))).toInt)), (0, ((xs (Int.toNat (x3 + 1))).toInt)), (2, x1)] hΦ lkV_L_127 ⟨by decide, by decide⟩ (Nat.le_of_ble_eq_true rfl) rfl (by decide) 7 (by decide) rfl o254 dL_law_1013 rfl h (fun r261 μ261 h => ?_)
        obtain ⟨o262, h⟩ := h
        refine ex_aload_n hΦ dL_law_1016 rfl o262.1 ?_
        refine ex_aload_s hΦ dL_law_1017 rfl ?_
        refine ex_iload_n hΦ dL_law_1018 rfl ?_
        refine ex_iconst hΦ dL_law_1019 ?_
        refine ex_iadd hΦ dL_law_1020 ?_
        refine ex_sald hΦ hS o255 o256 hn dL_law_1021 ?_
        refine ex_aload_s hΦ dL_law_1022 rfl ?_
        refine ex_iload_n hΦ dL_law_1023 rfl ?_
        refine ex_iconst hΦ dL_law_1024 ?_
        refine ex_iadd hΦ dL_law_1025 ?_
        refine ex_sald hΦ hS o257 o258 hn dL_law_1026 ?_
        refine ex_aload_s hΦ dL_law_1027 rfl ?_
        refine ex_iload_n hΦ dL_law_1028 rfl ?_
        refine ex_iconst hΦ dL_law_1029 ?_
        refine ex_iadd hΦ dL_law_1030 ?_
        refine ex_sald hΦ hS o259 o260 hn dL_law_1031 ?_
        refine ex_callVi [(0, ((xs (Int.toNat (x3 + 1))).toInt)), (0, ((xs (Int.toNat (x3 + 2))).toInt)), (0, ((xs (Int.toNat (x3 + 3))).toInt))] [(0, ((xs (Int.toNat (x3 + 3))).toInt)), (0, ((xs (Int.toNat (x3 + 2))).toInt)), (0, ((xs (Int.toNat (x3 + 1))).toInt)), (2, x2), (0, r261)] hΦ lkV_L_130 ⟨by decide, by decide⟩ (Nat.le_of_ble_eq_true rfl) rfl (by decide) 8 (by decide) rfl o262 dL_law_1032 rfl h (fun r263 μ263 h => ?_)
        obtain ⟨o264, h⟩ := h
        obtain ⟨o265, h⟩ := h
        refine ex_icmp_eq 1135 hΦ dL_law_1035 (by decide) o264 o265 (fun c => ?_) (fun c => ?_)
        · have h := h.1 c
          refine ex_iinc (L' := [some (3, x0), some (2, x1), some (2, x2), some (0, (x3 + 5))]) hΦ dL_law_1135 rfl (by decide) rfl ?_
          refine ex_goto 18 hΦ dL_law_1138 (by decide) ?_
          exact h
        · have h := h.2 c
          refine ex_iconst hΦ dL_law_1038 ?_
          exact h.elim
      | 28, _ =>
        refine ⟨_, 1040, by rw [hx]; rfl, by decide, ?_⟩
        have h := h.2.2.2.2.2.2.2.2.2.2.2.2.2.2.2.2.2.2.2.2.2.2.2.2.2.2.2.2.1 (by rw [hx]; rfl)
        obtain ⟨o266, h⟩ := h
        refine ex_aload_n hΦ dL_law_1040 rfl o266.1 ?_
        refine ex_callVi [] [(2, x1)] hΦ lkV_L_131 ⟨by decide, by decide⟩ (Nat.le_of_ble_eq_true rfl) rfl (by decide) 7 (by decide) rfl o266 dL_law_1041 rfl h (fun r267 μ267 h => ?_)
        obtain ⟨o268, h⟩ := h
        refine ex_aload_n hΦ dL_law_1044 rfl o268.1 ?_
        refine ex_callVi [] [(2, x2), (0, r267)] hΦ lkV_L_134 ⟨by decide, by decide⟩ (Nat.le_of_ble_eq_true rfl) rfl (by decide) 8 (by decide) rfl o268 dL_law_1045 rfl h (fun r269 μ269 h => ?_)
        obtain ⟨o270, h⟩ := h
        obtain ⟨o271, h⟩ := h
        refine ex_icmp_eq 1135 hΦ dL_law_1048 (by decide) o270 o271 (fun c => ?_) (fun c => ?_)
        · have h := h.1 c
          refine ex_iinc (L' := [some (3, x0), some (2, x1), some (2, x2), some (0, (x3 + 5))]) hΦ dL_law_1135 rfl (by decide) rfl ?_
          refine ex_goto 18 hΦ dL_law_1138 (by decide) ?_
          exact h
        · have h := h.2 c
          refine ex_iconst hΦ dL_law_1051 ?_
          exact h.elim
      | 29, _ =>
        refine ⟨_, 1053, by rw [hx]; rfl, by decide, ?_⟩
        have h := h.2.2.2.2.2.2.2.2.2.2.2.2.2.2.2.2.2.2.2.2.2.2.2.2.2.2.2.2.2.1 (by rw [hx]; rfl)
        obtain ⟨o272, h⟩ := h
        refine ex_aload_n hΦ dL_law_1053 rfl o272.1 ?_
        refine ex_callVi [] [(2, x1)] hΦ lkV_L_135 ⟨by decide, by decide⟩ (Nat.le_of_ble_eq_true rfl) rfl (by decide) 7 (by decide) rfl o272 dL_law_1054 rfl h (fun r273 μ273 h => ?_)
        obtain ⟨o274, h⟩ := h
        refine ex_aload_n hΦ dL_law_1057 rfl o274.1 ?_
        refine ex_callVi [] [(2, x2), (0, r273)] hΦ lkV_L_138 ⟨by decide, by decide⟩ (Nat.le_of_ble_eq_true rfl) rfl (by decide) 8 (by decide) rfl o274 dL_law_1058 rfl h (fun r275 μ275 h => ?_)
        obtain ⟨o276, h⟩ := h
        obtain ⟨o277, h⟩ := h
        refine ex_icmp_eq 1135 hΦ dL_law_1061 (by decide) o276 o277 (fun c => ?_) (fun c => ?_)
        · have h := h.1 c
          refine ex_iinc (L' := [some (3, x0), some (2, x1), some (2, x2), some (0, (x3 + 5))]) hΦ dL_law_1135 rfl (by decide) rfl ?_
          refine ex_goto 18 hΦ dL_law_1138 (by decide) ?_
          exact h
        · have h := h.2 c
          refine ex_iconst hΦ dL_law_1064 ?_
          exact h.elim
      | 30, _ =>
        refine ⟨_, 1066, by rw [hx]; rfl, by decide, ?_⟩
        have h := h.2.2.2.2.2.2.2.2.2.2.2.2.2.2.2.2.2.2.2.2.2.2.2.2.2.2.2.2.2.2.1 (by rw [hx]; rfl)
        obtain ⟨o278, h⟩ := h
        refine ex_aload_n hΦ dL_law_1066 rfl o278.1 ?_
        refine ex_aload_s hΦ dL_law_1067 rfl ?_
        refine ex_iload_n hΦ dL_law_1068 rfl ?_
        refine ex_iconst hΦ dL_law_1069 ?_
        refine ex_iadd hΦ dL_law_1070 ?_
        obtain ⟨o279, h⟩ := h
        obtain ⟨o280, h⟩ := h
        refine ex_sald hΦ hS o279 o280 hn dL_law_1071 ?_
        refine ex_callVi [(0, ((xs (Int.toNat (x3 + 1))).toInt))] [(0, ((xs (Int.toNat (x3 + 1))).toInt)), (2, x1)] hΦ lkV_L_139 ⟨by decide, by decide⟩ (Nat.le_of_ble_eq_true rfl) rfl (by decide) 7 (by decide) rfl o278 dL_law_1072 rfl h (fun r281 μ281 h => ?_)
        obtain ⟨o282, h⟩ := h
        refine ex_aload_n hΦ dL_law_1075 rfl o282.1 ?_
        refine ex_aload_s hΦ dL_law_1076 rfl ?_
        refine ex_iload_n hΦ dL_law_1077 rfl ?_
        refine ex_iconst hΦ dL_law_1078 ?_
        refine ex_iadd hΦ dL_law_1079 ?_
        refine ex_sald hΦ hS o279 o280 hn dL_law_1080 ?_
        refine ex_callVi [(0, ((xs (Int.toNat (x3 + 1))).toInt))] [(0, ((xs (Int.toNat (x3 + 1))).toInt)), (2, x2), (0, r281)] hΦ lkV_L_142 ⟨by decide, by decide⟩ (Nat.le_of_ble_eq_true rfl) rfl (by decide) 8 (by decide) rfl o282 dL_law_1081 rfl h (fun r283 μ283 h => ?_)
        obtain ⟨o284, h⟩ := h
        obtain ⟨o285, h⟩ := h
        refine ex_icmp_eq 1135 hΦ dL_law_1084 (by decide) o284 o285 (fun c => ?_) (fun c => ?_)
        · have h := h.1 c
          refine ex_iinc (L' := [some (3, x0), some (2, x1), some (2, x2), some (0, (x3 + 5))]) hΦ dL_law_1135 rfl (by decide) rfl ?_
          refine ex_goto 18 hΦ dL_law_1138 (by decide) ?_
          exact h
        · have h := h.2 c
          refine ex_iconst hΦ dL_law_1087 ?_
          exact h.elim
      | 31, _ =>
        refine ⟨_, 1089, by rw [hx]; rfl, by decide, ?_⟩
        have h := h.2.2.2.2.2.2.2.2.2.2.2.2.2.2.2.2.2.2.2.2.2.2.2.2.2.2.2.2.2.2.2.1 (by rw [hx]; rfl)
        obtain ⟨o286, h⟩ := h
        refine ex_aload_n hΦ dL_law_1089 rfl o286.1 ?_
        refine ex_aload_s hΦ dL_law_1090 rfl ?_
        refine ex_iload_n hΦ dL_law_1091 rfl ?_
        refine ex_iconst hΦ dL_law_1092 ?_
        refine ex_iadd hΦ dL_law_1093 ?_
        obtain ⟨o287, h⟩ := h
        obtain ⟨o288, h⟩ := h
        refine ex_sald hΦ hS o287 o288 hn dL_law_1094 ?_
        refine ex_callVi [(0, ((xs (Int.toNat (x3 + 1))).toInt))] [(0, ((xs (Int.toNat (x3 + 1))).toInt)), (2, x1)] hΦ lkV_L_143 ⟨by decide, by decide⟩ (Nat.le_of_ble_eq_true rfl) rfl (by decide) 7 (by decide) rfl o286 dL_law_1095 rfl h (fun r289 μ289 h => ?_)
        obtain ⟨o290, h⟩ := h
        refine ex_aload_n hΦ dL_law_1098 rfl o290.1 ?_
        refine ex_aload_s hΦ dL_law_1099 rfl ?_
        refine ex_iload_n hΦ dL_law_1100 rfl ?_
        refine ex_iconst hΦ dL_law_1101 ?_
        refine ex_iadd hΦ dL_law_1102 ?_
        refine ex_sald hΦ hS o287 o288 hn dL_law_1103 ?_
        refine ex_callVi [(0, ((xs (Int.toNat (x3 + 1))).toInt))] [(0, ((xs (Int.toNat (x3 + 1))).toInt)), (2, x2), (0, r289)] hΦ lkV_L_146 ⟨by decide, by decide⟩ (Nat.le_of_ble_eq_true rfl) rfl (by decide) 8 (by decide) rfl o290 dL_law_1104 rfl h (fun r291 μ291 h => ?_)
        obtain ⟨o292, h⟩ := h
        obtain ⟨o293, h⟩ := h
        refine ex_icmp_eq 1135 hΦ dL_law_1107 (by decide) o292 o293 (fun c => ?_) (fun c => ?_)
        · have h := h.1 c
          refine ex_iinc (L' := [some (3, x0), some (2, x1), some (2, x2), some (0, (x3 + 5))]) hΦ dL_law_1135 rfl (by decide) rfl ?_
          refine ex_goto 18 hΦ dL_law_1138 (by decide) ?_
          exact h
        · have h := h.2 c
          refine ex_iconst hΦ dL_law_1110 ?_
          exact h.elim
      | 32, _ =>
        refine ⟨_, 1112, by rw [hx]; rfl, by decide, ?_⟩
        have h := h.2.2.2.2.2.2.2.2.2.2.2.2.2.2.2.2.2.2.2.2.2.2.2.2.2.2.2.2.2.2.2.2 (by rw [hx]; rfl)
        obtain ⟨o294, h⟩ := h
        refine ex_aload_n hΦ dL_law_1112 rfl o294.1 ?_
        refine ex_aload_s hΦ dL_law_1113 rfl ?_
        refine ex_iload_n hΦ dL_law_1114 rfl ?_
        refine ex_iconst hΦ dL_law_1115 ?_
        refine ex_iadd hΦ dL_law_1116 ?_
        obtain ⟨o295, h⟩ := h
        obtain ⟨o296, h⟩ := h
        refine ex_sald hΦ hS o295 o296 hn dL_law_1117 ?_
        refine ex_callVi [(0, ((xs (Int.toNat (x3 + 1))).toInt))] [(0, ((xs (Int.toNat (x3 + 1))).toInt)), (2, x1)] hΦ lkV_L_147 ⟨by decide, by decide⟩ (Nat.le_of_ble_eq_true rfl) rfl (by decide) 7 (by decide) rfl o294 dL_law_1118 rfl h (fun r297 μ297 h => ?_)
        obtain ⟨o298, h⟩ := h
        refine ex_aload_n hΦ dL_law_1121 rfl o298.1 ?_
        refine ex_aload_s hΦ dL_law_1122 rfl ?_
        refine ex_iload_n hΦ dL_law_1123 rfl ?_
        refine ex_iconst hΦ dL_law_1124 ?_
        refine ex_iadd hΦ dL_law_1125 ?_
        refine ex_sald hΦ hS o295 o296 hn dL_law_1126 ?_
        refine ex_callVi [(0, ((xs (Int.toNat (x3 + 1))).toInt))] [(0, ((xs (Int.toNat (x3 + 1))).toInt)), (2, x2), (0, r297)] hΦ lkV_L_150 ⟨by decide, by decide⟩ (Nat.le_of_ble_eq_true rfl) rfl (by decide) 8 (by decide) rfl o298 dL_law_1127 rfl h (fun r299 μ299 h => ?_)
        obtain ⟨o300, h⟩ := h
        obtain ⟨o301, h⟩ := h
        refine ex_icmp_eq 1135 hΦ dL_law_1130 (by decide) o300 o301 (fun c => ?_) (fun c => ?_)
        · have h := h.1 c
          refine ex_iinc (L' := [some (3, x0), some (2, x1), some (2, x2), some (0, (x3 + 5))]) hΦ dL_law_1135 rfl (by decide) rfl ?_
          refine ex_goto 18 hΦ dL_law_1138 (by decide) ?_
          exact h
        · have h := h.2 c
          refine ex_iconst hΦ dL_law_1133 ?_
          exact h.elim
      | k + 33, hk => exact absurd hk (by omega)
theorem bL_law_426 {G : Gm} {Φ : Fr} {S : List Sh} {μ : Mem} {n : Nat} {xs : Nat → Int32} (hΦ : St G Φ cL_law RL 4 11 424 600000 7302250) (hR : RtL G Φ) (hn : n ≤ 2147483647) (hS : Sx G Φ n xs) {x0 x1 x2 x3 t0 t1 t2 : Int} (h : So S t0 (.inl 7) ∧ (Ci G mX7_cut [(2, t0), (0, t1), (0, t2)] S μ (fun r2 μ2 => So S x2 (.inl 8) ∧ (0 ≤ (x3 + 1) ∧ ((x3 + 1) < (n : Int) ∧ (0 ≤ (x3 + 2) ∧ ((x3 + 2) < (n : Int) ∧ (R32 ((xs (Int.toNat (x3 + 2))).toInt) ∧ ((((xs (Int.toNat (x3 + 2))).toInt) = 0 → Ci G mX8_cut [(2, x2), (0, ((xs (Int.toNat (x3 + 1))).toInt)), (0, 0)] S μ2 (fun r9 μ9 => R32 r2 ∧ (R32 r9 ∧ ((r2 = r9 → Ex G Φ 4 18 [some (3, x0), some (2, x1), some (2, x2), some (0, (x3 + 5))] [] S μ9 133 2036) ∧ (¬ (r2 = r9) → False))))) ∧ (¬ (((xs (Int.toNat (x3 + 2))).toInt) = 0) → Ci G mX8_cut [(2, x2), (0, ((xs (Int.toNat (x3 + 1))).toInt)), (0, 1)] S μ2 (fun r12 μ12 => R32 r2 ∧ (R32 r12 ∧ ((r2 = r12 → Ex G Φ 4 18 [some (3, x0), some (2, x1), some (2, x2), some (0, (x3 + 5))] [] S μ12 133 2036) ∧ (¬ (r2 = r12) → False)))))))))))))) : Ex G Φ 4 426 [some (3, x0), some (2, x1), some (2, x2), some (0, x3)] [(0, t2), (0, t1), (2, t0)] S μ 133 2036 := by
  obtain ⟨o1, h⟩ := h
  refine ex_callVi [(0, t1), (0, t2)] [(0, t2), (0, t1), (2, t0)] hΦ lkV_L_52 ⟨by decide, by decide⟩ (Nat.le_of_ble_eq_true rfl) rfl (by decide) 7 (by decide) rfl o1 dL_law_426 rfl h (fun r2 μ2 h => ?_)
  obtain ⟨o3, h⟩ := h
  refine ex_aload_n hΦ dL_law_429 rfl o3.1 ?_
  refine ex_aload_s hΦ dL_law_430 rfl ?_
  refine ex_iload_n hΦ dL_law_431 rfl ?_
  refine ex_iconst hΦ dL_law_432 ?_
  refine ex_iadd hΦ dL_law_433 ?_
  obtain ⟨o4, h⟩ := h
  obtain ⟨o5, h⟩ := h
  refine ex_sald hΦ hS o4 o5 hn dL_law_434 ?_
  refine ex_aload_s hΦ dL_law_435 rfl ?_
  refine ex_iload_n hΦ dL_law_436 rfl ?_
  refine ex_iconst hΦ dL_law_437 ?_
  refine ex_iadd hΦ dL_law_438 ?_
  obtain ⟨o6, h⟩ := h
  obtain ⟨o7, h⟩ := h
  refine ex_sald hΦ hS o6 o7 hn dL_law_439 ?_
  obtain ⟨o8, h⟩ := h
  refine ex_if_eq 447 hΦ dL_law_440 (by decide) o8 (fun c => ?_) (fun c => ?_)
  · have h := h.1 c
    refine ex_iconst hΦ dL_law_447 ?_
    refine ex_callVi [(0, ((xs (Int.toNat (x3 + 1))).toInt)), (0, 0)] [(0, 0), (0, ((xs (Int.toNat (x3 + 1))).toInt)), (2, x2), (0, r2)] hΦ lkV_L_56 ⟨by decide, by decide⟩ (Nat.le_of_ble_eq_true rfl) rfl (by decide) 8 (by decide) rfl o3 dL_law_448 rfl h (fun r9 μ9 h => ?_)
    obtain ⟨o10, h⟩ := h
    obtain ⟨o11, h⟩ := h
    refine ex_icmp_eq 1135 hΦ dL_law_451 (by decide) o10 o11 (fun c => ?_) (fun c => ?_)
    · have h := h.1 c
      refine ex_iinc (L' := [some (3, x0), some (2, x1), some (2, x2), some (0, (x3 + 5))]) hΦ dL_law_1135 rfl (by decide) rfl ?_
      refine ex_goto 18 hΦ dL_law_1138 (by decide) ?_
      exact h
    · have h := h.2 c
      refine ex_iconst hΦ dL_law_454 ?_
      exact h.elim
  · have h := h.2 c
    refine ex_iconst hΦ dL_law_443 ?_
    refine ex_goto 448 hΦ dL_law_444 (by decide) ?_
    refine ex_callVi [(0, ((xs (Int.toNat (x3 + 1))).toInt)), (0, 1)] [(0, 1), (0, ((xs (Int.toNat (x3 + 1))).toInt)), (2, x2), (0, r2)] hΦ lkV_L_56 ⟨by decide, by decide⟩ (Nat.le_of_ble_eq_true rfl) rfl (by decide) 8 (by decide) rfl o3 dL_law_448 rfl h (fun r12 μ12 h => ?_)
    obtain ⟨o13, h⟩ := h
    obtain ⟨o14, h⟩ := h
    refine ex_icmp_eq 1135 hΦ dL_law_451 (by decide) o13 o14 (fun c => ?_) (fun c => ?_)
    · have h := h.1 c
      refine ex_iinc (L' := [some (3, x0), some (2, x1), some (2, x2), some (0, (x3 + 5))]) hΦ dL_law_1135 rfl (by decide) rfl ?_
      refine ex_goto 18 hΦ dL_law_1138 (by decide) ?_
      exact h
    · have h := h.2 c
      refine ex_iconst hΦ dL_law_454 ?_
      exact h.elim
