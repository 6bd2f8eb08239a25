theorem cl_L_15 : fz_lv RL 15 yX8_write cX8_write 4 (some .int) RX8 2 := ⟨(fz_q6 _ (List.mem_of_getElem? (i := 23) rfl)), (fz_q7 _ (List.mem_of_getElem? (i := 0) rfl)), (fz_q7 _ (List.mem_of_getElem? (i := 1) rfl)), (fz_q1 _ (List.mem_of_getElem? (i := 2) rfl)), (fz_q7 _ (List.mem_of_getElem? (i := 2) rfl)), rfl, by decide, by decide, by decide +kernel⟩
theorem cl_L_19 : fz_lv RL 19 yX9_write cX9_write 5 (some .int) RX9 2 := ⟨(fz_q7 _ (List.mem_of_getElem? (i := 9) rfl)), (fz_q7 _ (List.mem_of_getElem? (i := 10) rfl)), (fz_q7 _ (List.mem_of_getElem? (i := 11) rfl)), (fz_q1 _ (List.mem_of_getElem? (i := 5) rfl)), (fz_q7 _ (List.mem_of_getElem? (i := 12) rfl)), rfl, by decide, by decide, by decide +kernel⟩
theorem cl_L_20 : fz_lv RL 20 yX8_wipe cX8_wipe 2 (some .int) RX8 0 := ⟨(fz_q7 _ (List.mem_of_getElem? (i := 19) rfl)), (fz_q7 _ (List.mem_of_getElem? (i := 20) rfl)), (fz_q7 _ (List.mem_of_getElem? (i := 21) rfl)), (fz_q1 _ (List.mem_of_getElem? (i := 2) rfl)), (fz_q7 _ (List.mem_of_getElem? (i := 22) rfl)), rfl, by decide, by decide, by decide +kernel⟩
theorem cl_L_24 : fz_lv RL 24 yX9_wipe cX9_wipe 2 (some .int) RX9 0 := ⟨(fz_q7 _ (List.mem_of_getElem? (i := 23) rfl)), (fz_q8 _ (List.mem_of_getElem? (i := 0) rfl)), (fz_q8 _ (List.mem_of_getElem? (i := 1) rfl)), (fz_q1 _ (List.mem_of_getElem? (i := 5) rfl)), (fz_q8 _ (List.mem_of_getElem? (i := 2) rfl)), rfl, by decide, by decide, by decide +kernel⟩
theorem cl_L_25 : fz_lv RL 25 yX8_fault cX8_fault 1 (some .int) RX8 0 := ⟨(fz_q8 _ (List.mem_of_getElem? (i := 3) rfl)), (fz_q8 _ (List.mem_of_getElem? (i := 4) rfl)), (fz_q8 _ (List.mem_of_getElem? (i := 5) rfl)), (fz_q1 _ (List.mem_of_getElem? (i := 2) rfl)), (fz_q8 _ (List.mem_of_getElem? (i := 6) rfl)), rfl, by decide, by decide, by decide +kernel⟩
theorem cl_L_28 : fz_lv RL 28 yX9_fault cX9_fault 1 (some .int) RX9 0 := ⟨(fz_q11 _ (List.mem_of_getElem? (i := 9) rfl)), (fz_q11 _ (List.mem_of_getElem? (i := 10) rfl)), (fz_q11 _ (List.mem_of_getElem? (i := 11) rfl)), (fz_q1 _ (List.mem_of_getElem? (i := 5) rfl)), (fz_q11 _ (List.mem_of_getElem? (i := 12) rfl)), rfl, by decide, by decide, by decide +kernel⟩
theorem cl_L_29 : fz_lv RL 29 yX8_town cX8_town 3 (some .int) RX8 0 := ⟨(fz_q13 _ (List.mem_of_getElem? (i := 9) rfl)), (fz_q13 _ (List.mem_of_getElem? (i := 10) rfl)), (fz_q13 _ (List.mem_of_getElem? (i := 11) rfl)), (fz_q1 _ (List.mem_of_getElem? (i := 2) rfl)), (fz_q13 _ (List.mem_of_getElem? (i := 12) rfl)), rfl, by decide, by decide, by decide +kernel⟩
theorem cl_L_32 : fz_lv RL 32 yX9_town cX9_town 2 (some .int) RX9 0 := ⟨(fz_q14 _ (List.mem_of_getElem? (i := 3) rfl)), (fz_q14 _ (List.mem_of_getElem? (i := 4) rfl)), (fz_q14 _ (List.mem_of_getElem? (i := 5) rfl)), (fz_q1 _ (List.mem_of_getElem? (i := 5) rfl)), (fz_q14 _ (List.mem_of_getElem? (i := 6) rfl)), rfl, by decide, by decide, by decide +kernel⟩
theorem cl_L_33 : fz_lv RL 33 yX8_about cX8_about 2 (some .int) RX8 1 := ⟨(fz_q14 _ (List.mem_of_getElem? (i := 12) rfl)), (fz_q14 _ (List.mem_of_getElem? (i := 13) rfl)), (fz_q14 _ (List.mem_of_getElem? (i := 14) rfl)), (fz_q1 _ (List.mem_of_getElem? (i := 2) rfl)), (fz_q14 _ (List.mem_of_getElem? (i := 15) rfl)), rfl, by decide, by decide, by decide +kernel⟩
theorem cl_L_37 : fz_lv RL 37 yX9_about cX9_about 5 (some .int) RX9 1 := ⟨(fz_q15 _ (List.mem_of_getElem? (i := 8) rfl)), (fz_q15 _ (List.mem_of_getElem? (i := 9) rfl)), (fz_q15 _ (List.mem_of_getElem? (i := 10) rfl)), (fz_q1 _ (List.mem_of_getElem? (i := 5) rfl)), (fz_q15 _ (List.mem_of_getElem? (i := 11) rfl)), rfl, by decide, by decide, by decide +kernel⟩
theorem cl_L_38 : fz_lv RL 38 yX8_house cX8_house 3 (some .int) RX8 2 := ⟨(fz_q15 _ (List.mem_of_getElem? (i := 13) rfl)), (fz_q15 _ (List.mem_of_getElem? (i := 14) rfl)), (fz_q15 _ (List.mem_of_getElem? (i := 15) rfl)), (fz_q1 _ (List.mem_of_getElem? (i := 2) rfl)), (fz_q15 _ (List.mem_of_getElem? (i := 16) rfl)), rfl, by decide, by decide, by decide +kernel⟩
theorem cl_L_42 : fz_lv RL 42 yX9_house cX9_house 6 (some .int) RX9 2 := ⟨(fz_q16 _ (List.mem_of_getElem? (i := 9) rfl)), (fz_q16 _ (List.mem_of_getElem? (i := 10) rfl)), (fz_q16 _ (List.mem_of_getElem? (i := 11) rfl)), (fz_q1 _ (List.mem_of_getElem? (i := 5) rfl)), (fz_q16 _ (List.mem_of_getElem? (i := 12) rfl)), rfl, by decide, by decide, by decide +kernel⟩
theorem cl_L_43 : fz_lv RL 43 yX8_stream cX8_stream 3 (some .int) RX8 2 := ⟨(fz_q16 _ (List.mem_of_getElem? (i := 17) rfl)), (fz_q16 _ (List.mem_of_getElem? (i := 18) rfl)), (fz_q16 _ (List.mem_of_getElem? (i := 19) rfl)), (fz_q1 _ (List.mem_of_getElem? (i := 2) rfl)), (fz_q16 _ (List.mem_of_getElem? (i := 20) rfl)), rfl, by decide, by decide, by decide +kernel⟩
theorem cl_L_46 : fz_lv RL 46 yX9_stream cX9_stream 3 (some .int) RX9 2 := ⟨(fz_q17 _ (List.mem_of_getElem? (i := 5) rfl)), (fz_q17 _ (List.mem_of_getElem? (i := 6) rfl)), (fz_q17 _ (List.mem_of_getElem? (i := 7) rfl)), (fz_q1 _ (List.mem_of_getElem? (i := 5) rfl)), (fz_q17 _ (List.mem_of_getElem? (i := 8) rfl)), rfl, by decide, by decide, by decide +kernel⟩
theorem cl_L_47 : fz_lv RL 47 yX8_piece cX8_piece 3 (some .int) RX8 2 := ⟨(fz_q17 _ (List.mem_of_getElem? (i := 9) rfl)), (fz_q17 _ (List.mem_of_getElem? (i := 10) rfl)), (fz_q17 _ (List.mem_of_getElem? (i := 11) rfl)), (fz_q1 _ (List.mem_of_getElem? (i := 2) rfl)), (fz_q17 _ (List.mem_of_getElem? (i := 12) rfl)), rfl, by decide, by decide, by decide +kernel⟩
theorem cl_L_50 : fz_lv RL 50 yX9_piece cX9_piece 3 (some .int) RX9 2 := ⟨(fz_q17 _ (List.mem_of_getElem? (i := 21) rfl)), (fz_q17 _ (List.mem_of_getElem? (i := 22) rfl)), (fz_q17 _ (List.mem_of_getElem? (i := 23) rfl)), (fz_q1 _ (List.mem_of_getElem? (i := 5) rfl)), (fz_q18 _ (List.mem_of_getElem? (i := 0) rfl)), rfl, by decide, by decide, by decide +kernel⟩
theorem cl_L_51 : fz_lv RL 51 yX8_owner cX8_owner 3 (some .int) RX8 2 := ⟨(fz_q18 _ (List.mem_of_getElem? (i := 5) rfl)), (fz_q18 _ (List.mem_of_getElem? (i := 6) rfl)), (fz_q18 _ (List.mem_of_getElem? (i := 7) rfl)), (fz_q1 _ (List.mem_of_getElem? (i := 2) rfl)), (fz_q18 _ (List.mem_of_getElem? (i := 8) rfl)), rfl, by decide, by decide, by decide +kernel⟩
theorem cl_L_54 : fz_lv RL 54 yX9_owner cX9_owner 3 (some .int) RX9 2 := ⟨(fz_q18 _ (List.mem_of_getElem? (i := 11) rfl)), (fz_q18 _ (List.mem_of_getElem? (i := 12) rfl)), (fz_q18 _ (List.mem_of_getElem? (i := 13) rfl)), (fz_q1 _ (List.mem_of_getElem? (i := 5) rfl)), (fz_q18 _ (List.mem_of_getElem? (i := 14) rfl)), rfl, by decide, by decide, by decide +kernel⟩
theorem cl_L_55 : fz_lv RL 55 yX8_tie cX8_tie 4 (some .int) RX8 2 := ⟨(fz_q18 _ (List.mem_of_getElem? (i := 15) rfl)), (fz_q18 _ (List.mem_of_getElem? (i := 16) rfl)), (fz_q18 _ (List.mem_of_getElem? (i := 17) rfl)), (fz_q1 _ (List.mem_of_getElem? (i := 2) rfl)), (fz_q18 _ (List.mem_of_getElem? (i := 18) rfl)), rfl, by decide, by decide, by decide +kernel⟩
theorem cl_L_58 : fz_lv RL 58 yX9_tie cX9_tie 4 (some .int) RX9 2 := ⟨(fz_q18 _ (List.mem_of_getElem? (i := 19) rfl)), (fz_q18 _ (List.mem_of_getElem? (i := 20) rfl)), (fz_q18 _ (List.mem_of_getElem? (i := 21) rfl)), (fz_q1 _ (List.mem_of_getElem? (i := 5) rfl)), (fz_q18 _ (List.mem_of_getElem? (i := 22) rfl)), rfl, by decide, by decide, by decide +kernel⟩
theorem cl_L_59 : fz_lv RL 59 yX8_carry cX8_carry 4 (some .int) RX8 2 := ⟨(fz_q19 _ (List.mem_of_getElem? (i := 0) rfl)), (fz_q19 _ (List.mem_of_getElem? (i := 1) rfl)), (fz_q19 _ (List.mem_of_getElem? (i := 2) rfl)), (fz_q1 _ (List.mem_of_getElem? (i := 2) rfl)), (fz_q19 _ (List.mem_of_getElem? (i := 3) rfl)), rfl, by decide, by decide, by decide +kernel⟩
theorem cl_L_62 : fz_lv RL 62 yX9_carry cX9_carry 4 (some .int) RX9 2 := ⟨(fz_q19 _ (List.mem_of_getElem? (i := 4) rfl)), (fz_q19 _ (List.mem_of_getElem? (i := 5) rfl)), (fz_q19 _ (List.mem_of_getElem? (i := 6) rfl)), (fz_q1 _ (List.mem_of_getElem? (i := 5) rfl)), (fz_q19 _ (List.mem_of_getElem? (i := 7) rfl)), rfl, by decide, by decide, by decide +kernel⟩
theorem cl_L_63 : fz_lv RL 63 yX8_shut cX8_shut 4 (some .int) RX8 2 := ⟨(fz_q19 _ (List.mem_of_getElem? (i := 8) rfl)), (fz_q19 _ (List.mem_of_getElem? (i := 9) rfl)), (fz_q19 _ (List.mem_of_getElem? (i := 10) rfl)), (fz_q1 _ (List.mem_of_getElem? (i := 2) rfl)), (fz_q19 _ (List.mem_of_getElem? (i := 11) rfl)), rfl, by decide, by decide, by decide +kernel⟩
theorem cl_L_67 : fz_lv RL 67 yX9_shut cX9_shut 4 (some .int) RX9 2 := ⟨(fz_q19 _ (List.mem_of_getElem? (i := 12) rfl)), (fz_q19 _ (List.mem_of_getElem? (i := 13) rfl)), (fz_q19 _ (List.mem_of_getElem? (i := 14) rfl)), (fz_q1 _ (List.mem_of_getElem? (i := 5) rfl)), (fz_q19 _ (List.mem_of_getElem? (i := 15) rfl)), rfl, by decide, by decide, by decide +kernel⟩
theorem cl_L_68 : fz_lv RL 68 yX8_deep cX8_deep 3 (some .int) RX8 2 := ⟨(fz_q19 _ (List.mem_of_getElem? (i := 16) rfl)), (fz_q19 _ (List.mem_of_getElem? (i := 17) rfl)), (fz_q19 _ (List.mem_of_getElem? (i := 18) rfl)), (fz_q1 _ (List.mem_of_getElem? (i := 2) rfl)), (fz_q19 _ (List.mem_of_getElem? (i := 19) rfl)), rfl, by decide, by decide, by decide +kernel⟩
theorem cl_L_71 : fz_lv RL 71 yX9_deep cX9_deep 3 (some .int) RX9 2 := ⟨(fz_q20 _ (List.mem_of_getElem? (i := 7) rfl)), (fz_q20 _ (List.mem_of_getElem? (i := 8) rfl)), (fz_q20 _ (List.mem_of_getElem? (i := 9) rfl)), (fz_q1 _ (List.mem_of_getElem? (i := 5) rfl)), (fz_q20 _ (List.mem_of_getElem? (i := 10) rfl)), rfl, by decide, by decide, by decide +kernel⟩
theorem cl_L_72 : fz_lv RL 72 yX8_hour cX8_hour 2 (some .int) RX8 1 := ⟨(fz_q20 _ (List.mem_of_getElem? (i := 16) rfl)), (fz_q20 _ (List.mem_of_getElem? (i := 17) rfl)), (fz_q20 _ (List.mem_of_getElem? (i := 18) rfl)), (fz_q1 _ (List.mem_of_getElem? (i := 2) rfl)), (fz_q20 _ (List.mem_of_getElem? (i := 19) rfl)), rfl, by decide, by decide, by decide +kernel⟩
theorem cl_L_75 : fz_lv RL 75 yX9_hour cX9_hour 4 (some .int) RX9 1 := ⟨(fz_q23 _ (List.mem_of_getElem? (i := 0) rfl)), (fz_q23 _ (List.mem_of_getElem? (i := 1) rfl)), (fz_q23 _ (List.mem_of_getElem? (i := 2) rfl)), (fz_q1 _ (List.mem_of_getElem? (i := 5) rfl)), (fz_q23 _ (List.mem_of_getElem? (i := 3) rfl)), rfl, by decide, by decide, by decide +kernel⟩
theorem cl_L_76 : fz_lv RL 76 yX8_jams cX8_jams 2 (some .int) RX8 1 := ⟨(fz_q24 _ (List.mem_of_getElem? (i := 1) rfl)), (fz_q24 _ (List.mem_of_getElem? (i := 2) rfl)), (fz_q24 _ (List.mem_of_getElem? (i := 3) rfl)), (fz_q1 _ (List.mem_of_getElem? (i := 2) rfl)), (fz_q24 _ (List.mem_of_getElem? (i := 4) rfl)), rfl, by decide, by decide, by decide +kernel⟩
theorem cl_L_79 : fz_lv RL 79 yX9_jams cX9_jams 2 (some .int) RX9 1 := ⟨(fz_q24 _ (List.mem_of_getElem? (i := 6) rfl)), (fz_q24 _ (List.mem_of_getElem? (i := 7) rfl)), (fz_q24 _ (List.mem_of_getElem? (i := 8) rfl)), (fz_q1 _ (List.mem_of_getElem? (i := 5) rfl)), (fz_q24 _ (List.mem_of_getElem? (i := 9) rfl)), rfl, by decide, by decide, by decide +kernel⟩
theorem cl_L_80 : fz_lv RL 80 yX8_spring cX8_spring 1 (some .int) RX8 0 := ⟨(fz_q24 _ (List.mem_of_getElem? (i := 10) rfl)), (fz_q24 _ (List.mem_of_getElem? (i := 11) rfl)), (fz_q24 _ (List.mem_of_getElem? (i := 12) rfl)), (fz_q1 _ (List.mem_of_getElem? (i := 2) rfl)), (fz_q24 _ (List.mem_of_getElem? (i := 13) rfl)), rfl, by decide, by decide, by decide +kernel⟩
theorem cl_L_83 : fz_lv RL 83 yX9_spring cX9_spring 3 (some .int) RX9 0 := ⟨(fz_q24 _ (List.mem_of_getElem? (i := 22) rfl)), (fz_q24 _ (List.mem_of_getElem? (i := 23) rfl)), (fz_q25 _ (List.mem_of_getElem? (i := 0) rfl)), (fz_q1 _ (List.mem_of_getElem? (i := 5) rfl)), (fz_q25 _ (List.mem_of_getElem? (i := 1) rfl)), rfl, by decide, by decide, by decide +kernel⟩
theorem cl_L_84 : fz_lv RL 84 yX8_undo cX8_undo 1 (some .int) RX8 0 := ⟨(fz_q25 _ (List.mem_of_getElem? (i := 2) rfl)), (fz_q25 _ (List.mem_of_getElem? (i := 3) rfl)), (fz_q25 _ (List.mem_of_getElem? (i := 4) rfl)), (fz_q1 _ (List.mem_of_getElem? (i := 2) rfl)), (fz_q25 _ (List.mem_of_getElem? (i := 5) rfl)), rfl, by decide, by decide, by decide +kernel⟩
theorem cl_L_87 : fz_lv RL 87 yX9_undo cX9_undo 1 (some .int) RX9 0 := ⟨(fz_q25 _ (List.mem_of_getElem? (i := 10) rfl)), (fz_q25 _ (List.mem_of_getElem? (i := 11) rfl)), (fz_q25 _ (List.mem_of_getElem? (i := 12) rfl)), (fz_q1 _ (List.mem_of_getElem? (i := 5) rfl)), (fz_q25 _ (List.mem_of_getElem? (i := 13) rfl)), rfl, by decide, by decide, by decide +kernel⟩
theorem cl_L_88 : fz_lv RL 88 yX8_after cX8_after 4 (some .int) RX8 3 := ⟨(fz_q25 _ (List.mem_of_getElem? (i := 18) rfl)), (fz_q25 _ (List.mem_of_getElem? (i := 19) rfl)), (fz_q25 _ (List.mem_of_getElem? (i := 20) rfl)), (fz_q1 _ (List.mem_of_getElem? (i := 2) rfl)), (fz_q25 _ (List.mem_of_getElem? (i := 21) rfl)), rfl, by decide, by decide, by decide +kernel⟩
theorem cl_L_92 : fz_lv RL 92 yX9_after cX9_after 4 (some .int) RX9 3 := ⟨(fz_q26 _ (List.mem_of_getElem? (i := 6) rfl)), (fz_q26 _ (List.mem_of_getElem? (i := 7) rfl)), (fz_q26 _ (List.mem_of_getElem? (i := 8) rfl)), (fz_q1 _ (List.mem_of_getElem? (i := 5) rfl)), (fz_q26 _ (List.mem_of_getElem? (i := 9) rfl)), rfl, by decide, by decide, by decide +kernel⟩
theorem cl_L_93 : fz_lv RL 93 yX8_ties cX8_ties 10 (some .int) RX8 4 := ⟨(fz_q26 _ (List.mem_of_getElem? (i := 17) rfl)), (fz_q26 _ (List.mem_of_getElem? (i := 18) rfl)), (fz_q26 _ (List.mem_of_getElem? (i := 19) rfl)), (fz_q1 _ (List.mem_of_getElem? (i := 2) rfl)), (fz_q26 _ (List.mem_of_getElem? (i := 20) rfl)), rfl, by decide, by decide, by decide +kernel⟩
theorem cl_L_97 : fz_lv RL 97 yX9_ties cX9_ties 6 (some .int) RX9 4 := ⟨(fz_q27 _ (List.mem_of_getElem? (i := 12) rfl)), (fz_q27 _ (List.mem_of_getElem? (i := 13) rfl)), (fz_q27 _ (List.mem_of_getElem? (i := 14) rfl)), (fz_q1 _ (List.mem_of_getElem? (i := 5) rfl)), (fz_q27 _ (List.mem_of_getElem? (i := 15) rfl)), rfl, by decide, by decide, by decide +kernel⟩
theorem cl_L_98 : fz_lv RL 98 yX8_dowry cX8_dowry 6 (some .int) RX8 4 := ⟨(fz_q28 _ (List.mem_of_getElem? (i := 0) rfl)), (fz_q28 _ (List.mem_of_getElem? (i := 1) rfl)), (fz_q28 _ (List.mem_of_getElem? (i := 2) rfl)), (fz_q1 _ (List.mem_of_getElem? (i := 2) rfl)), (fz_q28 _ (List.mem_of_getElem? (i := 3) rfl)), rfl, by decide, by decide, by decide +kernel⟩
theorem cl_L_102 : fz_lv RL 102 yX9_dowry cX9_dowry 6 (some .int) RX9 4 := ⟨(fz_q28 _ (List.mem_of_getElem? (i := 4) rfl)), (fz_q28 _ (List.mem_of_getElem? (i := 5) rfl)), (fz_q28 _ (List.mem_of_getElem? (i := 6) rfl)), (fz_q1 _ (List.mem_of_getElem? (i := 5) rfl)), (fz_q28 _ (List.mem_of_getElem? (i := 7) rfl)), rfl, by decide, by decide, by decide +kernel⟩
theorem cl_L_103 : fz_lv RL 103 yX8_toShut cX8_toShut 8 (some .int) RX8 3 := ⟨(fz_q28 _ (List.mem_of_getElem? (i := 8) rfl)), (fz_q28 _ (List.mem_of_getElem? (i := 9) rfl)), (fz_q28 _ (List.mem_of_getElem? (i := 10) rfl)), (fz_q1 _ (List.mem_of_getElem? (i := 2) rfl)), (fz_q28 _ (List.mem_of_getElem? (i := 11) rfl)), rfl, by decide, by decide, by decide +kernel⟩
theorem cl_L_106 : fz_lv RL 106 yX9_toShut cX9_toShut 8 (some .int) RX9 3 := ⟨(fz_q28 _ (List.mem_of_getElem? (i := 12) rfl)), (fz_q28 _ (List.mem_of_getElem? (i := 13) rfl)), (fz_q28 _ (List.mem_of_getElem? (i := 14) rfl)), (fz_q1 _ (List.mem_of_getElem? (i := 5) rfl)), (fz_q28 _ (List.mem_of_getElem? (i := 15) rfl)), rfl, by decide, by decide, by decide +kernel⟩
theorem cl_L_107 : fz_lv RL 107 yX8_drawn cX8_drawn 12 (some .long) RX8 5 := ⟨(fz_q28 _ (List.mem_of_getElem? (i := 20) rfl)), (fz_q28 _ (List.mem_of_getElem? (i := 21) rfl)), (fz_q28 _ (List.mem_of_getElem? (i := 22) rfl)), (fz_q1 _ (List.mem_of_getElem? (i := 2) rfl)), (fz_q28 _ (List.mem_of_getElem? (i := 23) rfl)), rfl, by decide, by decide, by decide +kernel⟩
theorem cl_L_111 : fz_lv RL 111 yX9_drawn cX9_drawn 12 (some .long) RX9 5 := ⟨(fz_q30 _ (List.mem_of_getElem? (i := 5) rfl)), (fz_q30 _ (List.mem_of_getElem? (i := 6) rfl)), (fz_q30 _ (List.mem_of_getElem? (i := 7) rfl)), (fz_q1 _ (List.mem_of_getElem? (i := 5) rfl)), (fz_q30 _ (List.mem_of_getElem? (i := 8) rfl)), rfl, by decide, by decide, by decide +kernel⟩
theorem cl_L_112 : fz_lv RL 112 yX8_goesFrom cX8_goesFrom 3 (some .int) RX8 1 := ⟨(fz_q30 _ (List.mem_of_getElem? (i := 15) rfl)), (fz_q30 _ (List.mem_of_getElem? (i := 16) rfl)), (fz_q30 _ (List.mem_of_getElem? (i := 17) rfl)), (fz_q1 _ (List.mem_of_getElem? (i := 2) rfl)), (fz_q30 _ (List.mem_of_getElem? (i := 18) rfl)), rfl, by decide, by decide, by decide +kernel⟩
theorem cl_L_115 : fz_lv RL 115 yX9_goesFrom cX9_goesFrom 4 (some .int) RX9 1 := ⟨(fz_q30 _ (List.mem_of_getElem? (i := 21) rfl)), (fz_q30 _ (List.mem_of_getElem? (i := 22) rfl)), (fz_q30 _ (List.mem_of_getElem? (i := 23) rfl)), (fz_q1 _ (List.mem_of_getElem? (i := 5) rfl)), (fz_q31 _ (List.mem_of_getElem? (i := 0) rfl)), rfl, by decide, by decide, by decide +kernel⟩
theorem cl_L_116 : fz_lv RL 116 yX8_mark cX8_mark 3 (some .int) RX8 2 := ⟨(fz_q31 _ (List.mem_of_getElem? (i := 1) rfl)), (fz_q31 _ (List.mem_of_getElem? (i := 2) rfl)), (fz_q31 _ (List.mem_of_getElem? (i := 3) rfl)), (fz_q1 _ (List.mem_of_getElem? (i := 2) rfl)), (fz_q31 _ (List.mem_of_getElem? (i := 4) rfl)), rfl, by decide, by decide, by decide +kernel⟩
theorem cl_L_119 : fz_lv RL 119 yX9_mark cX9_mark 3 (some .int) RX9 2 := ⟨(fz_q31 _ (List.mem_of_getElem? (i := 10) rfl)), (fz_q31 _ (List.mem_of_getElem? (i := 11) rfl)), (fz_q31 _ (List.mem_of_getElem? (i := 12) rfl)), (fz_q1 _ (List.mem_of_getElem? (i := 5) rfl)), (fz_q31 _ (List.mem_of_getElem? (i := 13) rfl)), rfl, by decide, by decide, by decide +kernel⟩
theorem cl_L_120 : fz_lv RL 120 yX8_unmark cX8_unmark 2 (some .int) RX8 0 := ⟨(fz_q31 _ (List.mem_of_getElem? (i := 14) rfl)), (fz_q31 _ (List.mem_of_getElem? (i := 15) rfl)), (fz_q31 _ (List.mem_of_getElem? (i := 16) rfl)), (fz_q1 _ (List.mem_of_getElem? (i := 2) rfl)), (fz_q31 _ (List.mem_of_getElem? (i := 17) rfl)), rfl, by decide, by decide, by decide +kernel⟩
theorem cl_L_123 : fz_lv RL 123 yX9_unmark cX9_unmark 2 (some .int) RX9 0 := ⟨(fz_q31 _ (List.mem_of_getElem? (i := 18) rfl)), (fz_q31 _ (List.mem_of_getElem? (i := 19) rfl)), (fz_q31 _ (List.mem_of_getElem? (i := 20) rfl)), (fz_q1 _ (List.mem_of_getElem? (i := 5) rfl)), (fz_q31 _ (List.mem_of_getElem? (i := 21) rfl)), rfl, by decide, by decide, by decide +kernel⟩
theorem cl_L_124 : fz_lv RL 124 yX8_rows cX8_rows 6 (some .long) RX8 2 := ⟨(fz_q31 _ (List.mem_of_getElem? (i := 22) rfl)), (fz_q31 _ (List.mem_of_getElem? (i := 23) rfl)), (fz_q32 _ (List.mem_of_getElem? (i := 0) rfl)), (fz_q1 _ (List.mem_of_getElem? (i := 2) rfl)), (fz_q32 _ (List.mem_of_getElem? (i := 1) rfl)), rfl, by decide, by decide, by decide +kernel⟩
theorem cl_L_128 : fz_lv RL 128 yX9_rows cX9_rows 6 (some .long) RX9 2 := ⟨(fz_q32 _ (List.mem_of_getElem? (i := 21) rfl)), (fz_q32 _ (List.mem_of_getElem? (i := 22) rfl)), (fz_q32 _ (List.mem_of_getElem? (i := 23) rfl)), (fz_q1 _ (List.mem_of_getElem? (i := 5) rfl)), (fz_q33 _ (List.mem_of_getElem? (i := 0) rfl)), rfl, by decide, by decide, by decide +kernel⟩
theorem cl_L_129 : fz_lv RL 129 yX8_ends cX8_ends 5 (some .int) RX8 2 := ⟨(fz_q33 _ (List.mem_of_getElem? (i := 9) rfl)), (fz_q33 _ (List.mem_of_getElem? (i := 10) rfl)), (fz_q33 _ (List.mem_of_getElem? (i := 11) rfl)), (fz_q1 _ (List.mem_of_getElem? (i := 2) rfl)), (fz_q33 _ (List.mem_of_getElem? (i := 12) rfl)), rfl, by decide, by decide, by decide +kernel⟩
theorem cl_L_132 : fz_lv RL 132 yX9_ends cX9_ends 5 (some .int) RX9 2 := ⟨(fz_q33 _ (List.mem_of_getElem? (i := 13) rfl)), (fz_q33 _ (List.mem_of_getElem? (i := 14) rfl)), (fz_q33 _ (List.mem_of_getElem? (i := 15) rfl)), (fz_q1 _ (List.mem_of_getElem? (i := 5) rfl)), (fz_q33 _ (List.mem_of_getElem? (i := 16) rfl)), rfl, by decide, by decide, by decide +kernel⟩
theorem cl_L_133 : fz_lv RL 133 yX8_keep cX8_keep 2 (some .int) RX8 1 := ⟨(fz_q33 _ (List.mem_of_getElem? (i := 17) rfl)), (fz_q33 _ (List.mem_of_getElem? (i := 18) rfl)), (fz_q33 _ (List.mem_of_getElem? (i := 19) rfl)), (fz_q1 _ (List.mem_of_getElem? (i := 2) rfl)), (fz_q33 _ (List.mem_of_getElem? (i := 20) rfl)), rfl, by decide, by decide, by decide +kernel⟩
theorem cl_L_136 : fz_lv RL 136 yX9_keep cX9_keep 3 (some .int) RX9 1 := ⟨(fz_q34 _ (List.mem_of_getElem? (i := 2) rfl)), (fz_q34 _ (List.mem_of_getElem? (i := 3) rfl)), (fz_q34 _ (List.mem_of_getElem? (i := 4) rfl)), (fz_q1 _ (List.mem_of_getElem? (i := 5) rfl)), (fz_q34 _ (List.mem_of_getElem? (i := 5) rfl)), rfl, by decide, by decide, by decide +kernel⟩
theorem cl_L_137 : fz_lv RL 137 yX8_again cX8_again 2 (some .int) RX8 1 := ⟨(fz_q34 _ (List.mem_of_getElem? (i := 6) rfl)), (fz_q34 _ (List.mem_of_getElem? (i := 7) rfl)), (fz_q34 _ (List.mem_of_getElem? (i := 8) rfl)), (fz_q1 _ (List.mem_of_getElem? (i := 2) rfl)), (fz_q34 _ (List.mem_of_getElem? (i := 9) rfl)), rfl, by decide, by decide, by decide +kernel⟩
theorem cl_L_140 : fz_lv RL 140 yX9_again cX9_again 3 (some .int) RX9 1 := ⟨(fz_q34 _ (List.mem_of_getElem? (i := 10) rfl)), (fz_q34 _ (List.mem_of_getElem? (i := 11) rfl)), (fz_q34 _ (List.mem_of_getElem? (i := 12) rfl)), (fz_q1 _ (List.mem_of_getElem? (i := 5) rfl)), (fz_q34 _ (List.mem_of_getElem? (i := 13) rfl)), rfl, by decide, by decide, by decide +kernel⟩
set_option maxHeartbeats 4000000 in
set_option maxRecDepth 100000 in
theorem lc_write {p : Program} {l : Launch} {e : Env} {s : State} {m : MethodId} {args : Array Value} {below : List Frame} {meth : Method} {c : Code} {H : Heap} {locs : List Loc} {Q : State → Prop} {ls : Array Slot} {GC GM : fz_G} {MC MM : fz_M} {b L k : Nat} {xs : Nat → Int32} {Rel : fz_M → fz_M → Prop} (C : CallFix p m c code 4 s args wsL_law RL) (hF : lw_F GC GM s) (hX : va_X b L xs s s.heap) (hbl : b < s.heap.size) (hL : L ≤ 3072) (hk : k + 5 < L) (hp : ∀ (a0 : Int32) (a1 : Int64), fz_pW Rel (f_X8_write a0 a1) (f_X9_write a0 a1)) (hR : Rel MC MM) (hT : lw_T GC GM s MC MM H locs) (hl : lv_has ls 4 [(0, .ref b), (1, .ref (GC.1 0)), (2, .ref (GM.1 0)), (3, .int (nI k))]) (hn : ∀ (MC MM : fz_M) (H : Heap) (locs : List Loc) (ls : Array Slot), Rel MC MM → lw_T GC GM s MC MM H locs → lv_has ls 4 [(0, .ref b), (1, .ref (GC.1 0)), (2, .ref (GM.1 0)), (3, .int (nI k))] → W p l e room_1 s m args below meth c H locs 600000 7302250 Q (F0 m 1111 ls [])) : W p l e room_1 s m args below meth c H locs 600000 7302250 Q (F0 m 164 ls []) := by
  refine lv_aload_n C.1 C.2.1 dL_law_164 rfl (lv_at hl 1 rfl) ?_
  refine lw_arg (j := 1) C hX hbl hT.2.2 rfl (by omega) hL hl rfl rfl dL_law_165 dL_law_166 dL_law_167 dL_law_168 dL_law_169 ?_
  refine lw_arg (j := 2) C hX hbl hT.2.2 rfl (by omega) hL hl rfl rfl dL_law_170 dL_law_171 dL_law_172 dL_law_173 dL_law_174 ?_
  refine lv_i2l (v := ((xs (k + 2)).toInt64)) C.1 C.2.1 dL_law_175 rfl ?_
  refine lv_bipush (v := 32) C.1 C.2.1 dL_law_176 (by decide) ?_
  refine lv_lshl (v := (((xs (k + 2)).toInt64) <<< ((32 : Int32).toInt64 &&& 63))) C.1 C.2.1 dL_law_178 rfl ?_
  refine lw_arg (j := 3) C hX hbl hT.2.2 rfl (by omega) hL hl rfl rfl dL_law_179 dL_law_180 dL_law_181 dL_law_182 dL_law_183 ?_
  refine lv_i2l (v := ((xs (k + 3)).toInt64)) C.1 C.2.1 dL_law_184 rfl ?_
  refine lv_ldc2 (v := 4294967295) C.1 C.2.1 C.2.2.2.1 (C.2.2.2.2 _ (fz_q1 _ (List.mem_of_getElem? (i := 6) rfl))) dL_law_185 ?_
  refine lv_land C.1 C.2.1 dL_law_188 ?_
  refine lv_lor C.1 C.2.1 dL_law_189 ?_
  obtain ⟨r, MC1, MM1, hc1, hm1, hR1⟩ := (hp (xs (k + 1)) ((((xs (k + 2)).toInt64) <<< ((32 : Int32).toInt64 &&& 63)) ||| (((xs (k + 3)).toInt64) &&& 4294967295))) MC MM hR
  refine lw_ciC hF hT (lw_runC (np := 2) (rest := []) C hF hT (c_X8_write l GC (xs (k + 1)) ((((xs (k + 2)).toInt64) <<< ((32 : Int32).toInt64 &&& 63)) ||| (((xs (k + 3)).toInt64) &&& 4294967295)) MC r MC1 hc1) cl_L_15 rfl hl.1 rfl (Nat.le_of_ble_eq_true rfl) ⟨Nat.le_of_ble_eq_true rfl, Nat.le_of_ble_eq_true rfl⟩ dL_law_190) (fun H locs hT => ?_)
  refine lv_aload_n C.1 C.2.1 dL_law_193 rfl (lv_at hl 2 rfl) ?_
  refine lw_arg (j := 1) C hX hbl hT.2.2 rfl (by omega) hL hl rfl rfl dL_law_194 dL_law_195 dL_law_196 dL_law_197 dL_law_198 ?_
  refine lw_arg (j := 2) C hX hbl hT.2.2 rfl (by omega) hL hl rfl rfl dL_law_199 dL_law_200 dL_law_201 dL_law_202 dL_law_203 ?_
  refine lv_i2l (v := ((xs (k + 2)).toInt64)) C.1 C.2.1 dL_law_204 rfl ?_
  refine lv_bipush (v := 32) C.1 C.2.1 dL_law_205 (by decide) ?_
  refine lv_lshl (v := (((xs (k + 2)).toInt64) <<< ((32 : Int32).toInt64 &&& 63))) C.1 C.2.1 dL_law_207 rfl ?_
  refine lw_arg (j := 3) C hX hbl hT.2.2 rfl (by omega) hL hl rfl rfl dL_law_208 dL_law_209 dL_law_210 dL_law_211 dL_law_212 ?_
  refine lv_i2l (v := ((xs (k + 3)).toInt64)) C.1 C.2.1 dL_law_213 rfl ?_
  refine lv_ldc2 (v := 4294967295) C.1 C.2.1 C.2.2.2.1 (C.2.2.2.2 _ (fz_q1 _ (List.mem_of_getElem? (i := 6) rfl))) dL_law_214 ?_
  refine lv_land C.1 C.2.1 dL_law_217 ?_
  refine lv_lor C.1 C.2.1 dL_law_218 ?_
  refine lw_ciM hF hT (lw_runM (np := 2) (rest := [.int r]) C hF hT (c_X9_write l GM (xs (k + 1)) ((((xs (k + 2)).toInt64) <<< ((32 : Int32).toInt64 &&& 63)) ||| (((xs (k + 3)).toInt64) &&& 4294967295)) MM r MM1 hm1) cl_L_19 rfl hl.1 rfl (Nat.le_of_ble_eq_true rfl) ⟨Nat.le_of_ble_eq_true rfl, Nat.le_of_ble_eq_true rfl⟩ dL_law_219) (fun H locs hT => ?_)
  exact lv_icmp_eq (tgt := 1111) C.1 C.2.1 dL_law_222 (by decide) (fun _ => hn _ _ _ _ _ hR1 hT hl) (fun q => absurd rfl q)
set_option maxHeartbeats 4000000 in
set_option maxRecDepth 100000 in
theorem lc_wipe {p : Program} {l : Launch} {e : Env} {s : State} {m : MethodId} {args : Array Value} {below : List Frame} {meth : Method} {c : Code} {H : Heap} {locs : List Loc} {Q : State → Prop} {ls : Array Slot} {GC GM : fz_G} {MC MM : fz_M} {b L k : Nat} {xs : Nat → Int32} {Rel : fz_M → fz_M → Prop} (C : CallFix p m c code 4 s args wsL_law RL) (hF : lw_F GC GM s) (hX : va_X b L xs s s.heap) (hbl : b < s.heap.size) (hL : L ≤ 3072) (hk : k + 5 < L) (hp : fz_pW Rel (f_X8_wipe) (f_X9_wipe)) (hR : Rel MC MM) (hT : lw_T GC GM s MC MM H locs) (hl : lv_has ls 4 [(0, .ref b), (1, .ref (GC.1 0)), (2, .ref (GM.1 0)), (3, .int (nI k))]) (hn : ∀ (MC MM : fz_M) (H : Heap) (locs : List Loc) (ls : Array Slot), Rel MC MM → lw_T GC GM s MC MM H locs → lv_has ls 4 [(0, .ref b), (1, .ref (GC.1 0)), (2, .ref (GM.1 0)), (3, .int (nI k))] → W p l e room_1 s m args below meth c H locs 600000 7302250 Q (F0 m 1111 ls [])) : W p l e room_1 s m args below meth c H locs 600000 7302250 Q (F0 m 227 ls []) := by
  refine lv_aload_n C.1 C.2.1 dL_law_227 rfl (lv_at hl 1 rfl) ?_
  obtain ⟨r, MC1, MM1, hc1, hm1, hR1⟩ := hp MC MM hR
  refine lw_ciC hF hT (lw_runC (np := 0) (rest := []) C hF hT (c_X8_wipe l GC MC r MC1 hc1) cl_L_20 rfl hl.1 rfl (Nat.le_of_ble_eq_true rfl) ⟨Nat.le_of_ble_eq_true rfl, Nat.le_of_ble_eq_true rfl⟩ dL_law_228) (fun H locs hT => ?_)
  refine lv_aload_n C.1 C.2.1 dL_law_231 rfl (lv_at hl 2 rfl) ?_
  refine lw_ciM hF hT (lw_runM (np := 0) (rest := [.int r]) C hF hT (c_X9_wipe l GM MM r MM1 hm1) cl_L_24 rfl hl.1 rfl (Nat.le_of_ble_eq_true rfl) ⟨Nat.le_of_ble_eq_true rfl, Nat.le_of_ble_eq_true rfl⟩ dL_law_232) (fun H locs hT => ?_)
  exact lv_icmp_eq (tgt := 1111) C.1 C.2.1 dL_law_235 (by decide) (fun _ => hn _ _ _ _ _ hR1 hT hl) (fun q => absurd rfl q)
set_option maxHeartbeats 4000000 in
set_option maxRecDepth 100000 in
theorem lc_fault {p : Program} {l : Launch} {e : Env} {s : State} {m : MethodId} {args : Array Value} {below : List Frame} {meth : Method} {c : Code} {H : Heap} {locs : List Loc} {Q : State → Prop} {ls : Array Slot} {GC GM : fz_G} {MC MM : fz_M} {b L k : Nat} {xs : Nat → Int32} {Rel : fz_M → fz_M → Prop} (C : CallFix p m c code 4 s args wsL_law RL) (hF : lw_F GC GM s) (hX : va_X b L xs s s.heap) (hbl : b < s.heap.size) (hL : L ≤ 3072) (hk : k + 5 < L) (hp : fz_pW Rel (f_X8_fault) (f_X9_fault)) (hR : Rel MC MM) (hT : lw_T GC GM s MC MM H locs) (hl : lv_has ls 4 [(0, .ref b), (1, .ref (GC.1 0)), (2, .ref (GM.1 0)), (3, .int (nI k))]) (hn : ∀ (MC MM : fz_M) (H : Heap) (locs : List Loc) (ls : Array Slot), Rel MC MM → lw_T GC GM s MC MM H locs → lv_has ls 4 [(0, .ref b), (1, .ref (GC.1 0)), (2, .ref (GM.1 0)), (3, .int (nI k))] → W p l e room_1 s m args below meth c H locs 600000 7302250 Q (F0 m 1111 ls [])) : W p l e room_1 s m args below meth c H locs 600000 7302250 Q (F0 m 240 ls []) := by
  refine lv_aload_n C.1 C.2.1 dL_law_240 rfl (lv_at hl 1 rfl) ?_
  obtain ⟨r, MC1, MM1, hc1, hm1, hR1⟩ := hp MC MM hR
  refine lw_ciC hF hT (lw_runC (np := 0) (rest := []) C hF hT (c_X8_fault l GC MC r MC1 hc1) cl_L_25 rfl hl.1 rfl (Nat.le_of_ble_eq_true rfl) ⟨Nat.le_of_ble_eq_true rfl, Nat.le_of_ble_eq_true rfl⟩ dL_law_241) (fun H locs hT => ?_)
  refine lv_aload_n C.1 C.2.1 dL_law_244 rfl (lv_at hl 2 rfl) ?_
  refine lw_ciM hF hT (lw_runM (np := 0) (rest := [.int r]) C hF hT (c_X9_fault l GM MM r MM1 hm1) cl_L_28 rfl hl.1 rfl (Nat.le_of_ble_eq_true rfl) ⟨Nat.le_of_ble_eq_true rfl, Nat.le_of_ble_eq_true rfl⟩ dL_law_245) (fun H locs hT => ?_)
  exact lv_icmp_eq (tgt := 1111) C.1 C.2.1 dL_law_248 (by decide) (fun _ => hn _ _ _ _ _ hR1 hT hl) (fun q => absurd rfl q)
set_option maxHeartbeats 4000000 in
set_option maxRecDepth 100000 in
theorem lc_town {p : Program} {l : Launch} {e : Env} {s : State} {m : MethodId} {args : Array Value} {below : List Frame} {meth : Method} {c : Code} {H : Heap} {locs : List Loc} {Q : State → Prop} {ls : Array Slot} {GC GM : fz_G} {MC MM : fz_M} {b L k : Nat} {xs : Nat → Int32} {Rel : fz_M → fz_M → Prop} (C : CallFix p m c code 4 s args wsL_law RL) (hF : lw_F GC GM s) (hX : va_X b L xs s s.heap) (hbl : b < s.heap.size) (hL : L ≤ 3072) (hk : k + 5 < L) (hp : fz_pW Rel (f_X8_town) (f_X9_town)) (hR : Rel MC MM) (hT : lw_T GC GM s MC MM H locs) (hl : lv_has ls 4 [(0, .ref b), (1, .ref (GC.1 0)), (2, .ref (GM.1 0)), (3, .int (nI k))]) (hn : ∀ (MC MM : fz_M) (H : Heap) (locs : List Loc) (ls : Array Slot), Rel MC MM → lw_T GC GM s MC MM H locs → lv_has ls 4 [(0, .ref b), (1, .ref (GC.1 0)), (2, .ref (GM.1 0)), (3, .int (nI k))] → W p l e room_1 s m args below meth c H locs 600000 7302250 Q (F0 m 1111 ls [])) : W p l e room_1 s m args below meth c H locs 600000 7302250 Q (F0 m 253 ls []) := by
  refine lv_aload_n C.1 C.2.1 dL_law_253 rfl (lv_at hl 1 rfl) ?_
  obtain ⟨r, MC1, MM1, hc1, hm1, hR1⟩ := hp MC MM hR
  refine lw_ciC hF hT (lw_runC (np := 0) (rest := []) C hF hT (c_X8_town l GC MC r MC1 hc1) cl_L_29 rfl hl.1 rfl (Nat.le_of_ble_eq_true rfl) ⟨Nat.le_of_ble_eq_true rfl, Nat.le_of_ble_eq_true rfl⟩ dL_law_254) (fun H locs hT => ?_)
  refine lv_aload_n C.1 C.2.1 dL_law_257 rfl (lv_at hl 2 rfl) ?_
  refine lw_ciM hF hT (lw_runM (np := 0) (rest := [.int r]) C hF hT (c_X9_town l GM MM r MM1 hm1) cl_L_32 rfl hl.1 rfl (Nat.le_of_ble_eq_true rfl) ⟨Nat.le_of_ble_eq_true rfl, Nat.le_of_ble_eq_true rfl⟩ dL_law_258) (fun H locs hT => ?_)
  exact lv_icmp_eq (tgt := 1111) C.1 C.2.1 dL_law_261 (by decide) (fun _ => hn _ _ _ _ _ hR1 hT hl) (fun q => absurd rfl q)
set_option maxHeartbeats 4000000 in
set_option maxRecDepth 100000 in
theorem lc_about {p : Program} {l : Launch} {e : Env} {s : State} {m : MethodId} {args : Array Value} {below : List Frame} {meth : Method} {c : Code} {H : Heap} {locs : List Loc} {Q : State → Prop} {ls : Array Slot} {GC GM : fz_G} {MC MM : fz_M} {b L k : Nat} {xs : Nat → Int32} {Rel : fz_M → fz_M → Prop} (C : CallFix p m c code 4 s args wsL_law RL) (hF : lw_F GC GM s) (hX : va_X b L xs s s.heap) (hbl : b < s.heap.size) (hL : L ≤ 3072) (hk : k + 5 < L) (hp : ∀ (a0 : Int32), fz_pP Rel (f_X8_about a0) (f_X9_about a0)) (hR : Rel MC MM) (hT : lw_T GC GM s MC MM H locs) (hl : lv_has ls 4 [(0, .ref b), (1, .ref (GC.1 0)), (2, .ref (GM.1 0)), (3, .int (nI k))]) (hn : ∀ (MC MM : fz_M) (H : Heap) (locs : List Loc) (ls : Array Slot), Rel MC MM → lw_T GC GM s MC MM H locs → lv_has ls 4 [(0, .ref b), (1, .ref (GC.1 0)), (2, .ref (GM.1 0)), (3, .int (nI k))] → W p l e room_1 s m args below meth c H locs 600000 7302250 Q (F0 m 1111 ls [])) : W p l e room_1 s m args below meth c H locs 600000 7302250 Q (F0 m 266 ls []) := by
  refine lv_aload_n C.1 C.2.1 dL_law_266 rfl (lv_at hl 1 rfl) ?_
  refine lw_arg (j := 1) C hX hbl hT.2.2 rfl (by omega) hL hl rfl rfl dL_law_267 dL_law_268 dL_law_269 dL_law_270 dL_law_271 ?_
  obtain ⟨r, MM1, hc1, hm1, hR1⟩ := (hp (xs (k + 1))) MC MM hR
  refine lw_ciC hF hT (lw_runC (np := 1) (rest := []) C hF hT (c_X8_about l GC (xs (k + 1)) MC r hc1) cl_L_33 rfl hl.1 rfl (Nat.le_of_ble_eq_true rfl) ⟨Nat.le_of_ble_eq_true rfl, Nat.le_of_ble_eq_true rfl⟩ dL_law_272) (fun H locs hT => ?_)
  refine lv_aload_n C.1 C.2.1 dL_law_275 rfl (lv_at hl 2 rfl) ?_
  refine lw_arg (j := 1) C hX hbl hT.2.2 rfl (by omega) hL hl rfl rfl dL_law_276 dL_law_277 dL_law_278 dL_law_279 dL_law_280 ?_
  refine lw_ciM hF hT (lw_runM (np := 1) (rest := [.int r]) C hF hT (c_X9_about l GM (xs (k + 1)) MM r MM1 hm1) cl_L_37 rfl hl.1 rfl (Nat.le_of_ble_eq_true rfl) ⟨Nat.le_of_ble_eq_true rfl, Nat.le_of_ble_eq_true rfl⟩ dL_law_281) (fun H locs hT => ?_)
  exact lv_icmp_eq (tgt := 1111) C.1 C.2.1 dL_law_284 (by decide) (fun _ => hn _ _ _ _ _ hR1 hT hl) (fun q => absurd rfl q)
set_option maxHeartbeats 4000000 in
set_option maxRecDepth 100000 in
theorem lc_house {p : Program} {l : Launch} {e : Env} {s : State} {m : MethodId} {args : Array Value} {below : List Frame} {meth : Method} {c : Code} {H : Heap} {locs : List Loc} {Q : State → Prop} {ls : Array Slot} {GC GM : fz_G} {MC MM : fz_M} {b L k : Nat} {xs : Nat → Int32} {Rel : fz_M → fz_M → Prop} (C : CallFix p m c code 4 s args wsL_law RL) (hF : lw_F GC GM s) (hX : va_X b L xs s s.heap) (hbl : b < s.heap.size) (hL : L ≤ 3072) (hk : k + 5 < L) (hp : ∀ (a0 : Int32) (a1 : Int32), fz_pP Rel (f_X8_house a0 a1) (f_X9_house a0 a1)) (hR : Rel MC MM) (hT : lw_T GC GM s MC MM H locs) (hl : lv_has ls 4 [(0, .ref b), (1, .ref (GC.1 0)), (2, .ref (GM.1 0)), (3, .int (nI k))]) (hn : ∀ (MC MM : fz_M) (H : Heap) (locs : List Loc) (ls : Array Slot), Rel MC MM → lw_T GC GM s MC MM H locs → lv_has ls 4 [(0, .ref b), (1, .ref (GC.1 0)), (2, .ref (GM.1 0)), (3, .int (nI k))] → W p l e room_1 s m args below meth c H locs 600000 7302250 Q (F0 m 1111 ls [])) : W p l e room_1 s m args below meth c H locs 600000 7302250 Q (F0 m 289 ls []) := by
  refine lv_aload_n C.1 C.2.1 dL_law_289 rfl (lv_at hl 1 rfl) ?_
  refine lw_arg (j := 1) C hX hbl hT.2.2 rfl (by omega) hL hl rfl rfl dL_law_290 dL_law_291 dL_law_292 dL_law_293 dL_law_294 ?_
  refine lw_arg (j := 2) C hX hbl hT.2.2 rfl (by omega) hL hl rfl rfl dL_law_295 dL_law_296 dL_law_297 dL_law_298 dL_law_299 ?_
  obtain ⟨r, MM1, hc1, hm1, hR1⟩ := (hp (xs (k + 1)) (xs (k + 2))) MC MM hR
  refine lw_ciC hF hT (lw_runC (np := 2) (rest := []) C hF hT (c_X8_house l GC (xs (k + 1)) (xs (k + 2)) MC r hc1) cl_L_38 rfl hl.1 rfl (Nat.le_of_ble_eq_true rfl) ⟨Nat.le_of_ble_eq_true rfl, Nat.le_of_ble_eq_true rfl⟩ dL_law_300) (fun H locs hT => ?_)
  refine lv_aload_n C.1 C.2.1 dL_law_303 rfl (lv_at hl 2 rfl) ?_
  refine lw_arg (j := 1) C hX hbl hT.2.2 rfl (by omega) hL hl rfl rfl dL_law_304 dL_law_305 dL_law_306 dL_law_307 dL_law_308 ?_
  refine lw_arg (j := 2) C hX hbl hT.2.2 rfl (by omega) hL hl rfl rfl dL_law_309 dL_law_310 dL_law_311 dL_law_312 dL_law_313 ?_
  refine lw_ciM hF hT (lw_runM (np := 2) (rest := [.int r]) C hF hT (c_X9_house l GM (xs (k + 1)) (xs (k + 2)) MM r MM1 hm1) cl_L_42 rfl hl.1 rfl (Nat.le_of_ble_eq_true rfl) ⟨Nat.le_of_ble_eq_true rfl, Nat.le_of_ble_eq_true rfl⟩ dL_law_314) (fun H locs hT => ?_)
  exact lv_icmp_eq (tgt := 1111) C.1 C.2.1 dL_law_317 (by decide) (fun _ => hn _ _ _ _ _ hR1 hT hl) (fun q => absurd rfl q)
set_option maxHeartbeats 4000000 in
set_option maxRecDepth 100000 in
theorem lc_stream {p : Program} {l : Launch} {e : Env} {s : State} {m : MethodId} {args : Array Value} {below : List Frame} {meth : Method} {c : Code} {H : Heap} {locs : List Loc} {Q : State → Prop} {ls : Array Slot} {GC GM : fz_G} {MC MM : fz_M} {b L k : Nat} {xs : Nat → Int32} {Rel : fz_M → fz_M → Prop} (C : CallFix p m c code 4 s args wsL_law RL) (hF : lw_F GC GM s) (hX : va_X b L xs s s.heap) (hbl : b < s.heap.size) (hL : L ≤ 3072) (hk : k + 5 < L) (hp : ∀ (a0 : Int32) (a1 : Int32), fz_pP Rel (f_X8_stream a0 a1) (f_X9_stream a0 a1)) (hR : Rel MC MM) (hT : lw_T GC GM s MC MM H locs) (hl : lv_has ls 4 [(0, .ref b), (1, .ref (GC.1 0)), (2, .ref (GM.1 0)), (3, .int (nI k))]) (hn : ∀ (MC MM : fz_M) (H : Heap) (locs : List Loc) (ls : Array Slot), Rel MC MM → lw_T GC GM s MC MM H locs → lv_has ls 4 [(0, .ref b), (1, .ref (GC.1 0)), (2, .ref (GM.1 0)), (3, .int (nI k))] → W p l e room_1 s m args below meth c H locs 600000 7302250 Q (F0 m 1111 ls [])) : W p l e room_1 s m args below meth c H locs 600000 7302250 Q (F0 m 322 ls []) := by
  refine lv_aload_n C.1 C.2.1 dL_law_322 rfl (lv_at hl 1 rfl) ?_
  refine lw_arg (j := 1) C hX hbl hT.2.2 rfl (by omega) hL hl rfl rfl dL_law_323 dL_law_324 dL_law_325 dL_law_326 dL_law_327 ?_
  refine lw_arg (j := 2) C hX hbl hT.2.2 rfl (by omega) hL hl rfl rfl dL_law_328 dL_law_329 dL_law_330 dL_law_331 dL_law_332 ?_
  obtain ⟨r, MM1, hc1, hm1, hR1⟩ := (hp (xs (k + 1)) (xs (k + 2))) MC MM hR
  refine lw_ciC hF hT (lw_runC (np := 2) (rest := []) C hF hT (c_X8_stream l GC (xs (k + 1)) (xs (k + 2)) MC r hc1) cl_L_43 rfl hl.1 rfl (Nat.le_of_ble_eq_true rfl) ⟨Nat.le_of_ble_eq_true rfl, Nat.le_of_ble_eq_true rfl⟩ dL_law_333) (fun H locs hT => ?_)
  refine lv_aload_n C.1 C.2.1 dL_law_336 rfl (lv_at hl 2 rfl) ?_
  refine lw_arg (j := 1) C hX hbl hT.2.2 rfl (by omega) hL hl rfl rfl dL_law_337 dL_law_338 dL_law_339 dL_law_340 dL_law_341 ?_
  refine lw_arg (j := 2) C hX hbl hT.2.2 rfl (by omega) hL hl rfl rfl dL_law_342 dL_law_343 dL_law_344 dL_law_345 dL_law_346 ?_
  refine lw_ciM hF hT (lw_runM (np := 2) (rest := [.int r]) C hF hT (c_X9_stream l GM (xs (k + 1)) (xs (k + 2)) MM r MM1 hm1) cl_L_46 rfl hl.1 rfl (Nat.le_of_ble_eq_true rfl) ⟨Nat.le_of_ble_eq_true rfl, Nat.le_of_ble_eq_true rfl⟩ dL_law_347) (fun H locs hT => ?_)
  exact lv_icmp_eq (tgt := 1111) C.1 C.2.1 dL_law_350 (by decide) (fun _ => hn _ _ _ _ _ hR1 hT hl) (fun q => absurd rfl q)
set_option maxHeartbeats 4000000 in
set_option maxRecDepth 100000 in
theorem lc_piece {p : Program} {l : Launch} {e : Env} {s : State} {m : MethodId} {args : Array Value} {below : List Frame} {meth : Method} {c : Code} {H : Heap} {locs : List Loc} {Q : State → Prop} {ls : Array Slot} {GC GM : fz_G} {MC MM : fz_M} {b L k : Nat} {xs : Nat → Int32} {Rel : fz_M → fz_M → Prop} (C : CallFix p m c code 4 s args wsL_law RL) (hF : lw_F GC GM s) (hX : va_X b L xs s s.heap) (hbl : b < s.heap.size) (hL : L ≤ 3072) (hk : k + 5 < L) (hp : ∀ (a0 : Int32) (a1 : Int32), fz_pP Rel (f_X8_piece a0 a1) (f_X9_piece a0 a1)) (hR : Rel MC MM) (hT : lw_T GC GM s MC MM H locs) (hl : lv_has ls 4 [(0, .ref b), (1, .ref (GC.1 0)), (2, .ref (GM.1 0)), (3, .int (nI k))]) (hn : ∀ (MC MM : fz_M) (H : Heap) (locs : List Loc) (ls : Array Slot), Rel MC MM → lw_T GC GM s MC MM H locs → lv_has ls 4 [(0, .ref b), (1, .ref (GC.1 0)), (2, .ref (GM.1 0)), (3, .int (nI k))] → W p l e room_1 s m args below meth c H locs 600000 7302250 Q (F0 m 1111 ls [])) : W p l e room_1 s m args below meth c H locs 600000 7302250 Q (F0 m 355 ls []) := by
  refine lv_aload_n C.1 C.2.1 dL_law_355 rfl (lv_at hl 1 rfl) ?_
  refine lw_arg (j := 1) C hX hbl hT.2.2 rfl (by omega) hL hl rfl rfl dL_law_356 dL_law_357 dL_law_358 dL_law_359 dL_law_360 ?_
  refine lw_arg (j := 2) C hX hbl hT.2.2 rfl (by omega) hL hl rfl rfl dL_law_361 dL_law_362 dL_law_363 dL_law_364 dL_law_365 ?_
  obtain ⟨r, MM1, hc1, hm1, hR1⟩ := (hp (xs (k + 1)) (xs (k + 2))) MC MM hR
  refine lw_ciC hF hT (lw_runC (np := 2) (rest := []) C hF hT (c_X8_piece l GC (xs (k + 1)) (xs (k + 2)) MC r hc1) cl_L_47 rfl hl.1 rfl (Nat.le_of_ble_eq_true rfl) ⟨Nat.le_of_ble_eq_true rfl, Nat.le_of_ble_eq_true rfl⟩ dL_law_366) (fun H locs hT => ?_)
  refine lv_aload_n C.1 C.2.1 dL_law_369 rfl (lv_at hl 2 rfl) ?_
  refine lw_arg (j := 1) C hX hbl hT.2.2 rfl (by omega) hL hl rfl rfl dL_law_370 dL_law_371 dL_law_372 dL_law_373 dL_law_374 ?_
  refine lw_arg (j := 2) C hX hbl hT.2.2 rfl (by omega) hL hl rfl rfl dL_law_375 dL_law_376 dL_law_377 dL_law_378 dL_law_379 ?_
  refine lw_ciM hF hT (lw_runM (np := 2) (rest := [.int r]) C hF hT (c_X9_piece l GM (xs (k + 1)) (xs (k + 2)) MM r MM1 hm1) cl_L_50 rfl hl.1 rfl (Nat.le_of_ble_eq_true rfl) ⟨Nat.le_of_ble_eq_true rfl, Nat.le_of_ble_eq_true rfl⟩ dL_law_380) (fun H locs hT => ?_)
  exact lv_icmp_eq (tgt := 1111) C.1 C.2.1 dL_law_383 (by decide) (fun _ => hn _ _ _ _ _ hR1 hT hl) (fun q => absurd rfl q)
set_option maxHeartbeats 4000000 in
set_option maxRecDepth 100000 in
theorem lc_owner {p : Program} {l : Launch} {e : Env} {s : State} {m : MethodId} {args : Array Value} {below : List Frame} {meth : Method} {c : Code} {H : Heap} {locs : List Loc} {Q : State → Prop} {ls : Array Slot} {GC GM : fz_G} {MC MM : fz_M} {b L k : Nat} {xs : Nat → Int32} {Rel : fz_M → fz_M → Prop} (C : CallFix p m c code 4 s args wsL_law RL) (hF : lw_F GC GM s) (hX : va_X b L xs s s.heap) (hbl : b < s.heap.size) (hL : L ≤ 3072) (hk : k + 5 < L) (hp : ∀ (a0 : Int32) (a1 : Int32), fz_pP Rel (f_X8_owner a0 a1) (f_X9_owner a0 a1)) (hR : Rel MC MM) (hT : lw_T GC GM s MC MM H locs) (hl : lv_has ls 4 [(0, .ref b), (1, .ref (GC.1 0)), (2, .ref (GM.1 0)), (3, .int (nI k))]) (hn : ∀ (MC MM : fz_M) (H : Heap) (locs : List Loc) (ls : Array Slot), Rel MC MM → lw_T GC GM s MC MM H locs → lv_has ls 4 [(0, .ref b), (1, .ref (GC.1 0)), (2, .ref (GM.1 0)), (3, .int (nI k))] → W p l e room_1 s m args below meth c H locs 600000 7302250 Q (F0 m 1111 ls [])) : W p l e room_1 s m args below meth c H locs 600000 7302250 Q (F0 m 388 ls []) := by
  refine lv_aload_n C.1 C.2.1 dL_law_388 rfl (lv_at hl 1 rfl) ?_
  refine lw_arg (j := 1) C hX hbl hT.2.2 rfl (by omega) hL hl rfl rfl dL_law_389 dL_law_390 dL_law_391 dL_law_392 dL_law_393 ?_
  refine lw_arg (j := 2) C hX hbl hT.2.2 rfl (by omega) hL hl rfl rfl dL_law_394 dL_law_395 dL_law_396 dL_law_397 dL_law_398 ?_
  obtain ⟨r, MM1, hc1, hm1, hR1⟩ := (hp (xs (k + 1)) (xs (k + 2))) MC MM hR
  refine lw_ciC hF hT (lw_runC (np := 2) (rest := []) C hF hT (c_X8_owner l GC (xs (k + 1)) (xs (k + 2)) MC r hc1) cl_L_51 rfl hl.1 rfl (Nat.le_of_ble_eq_true rfl) ⟨Nat.le_of_ble_eq_true rfl, Nat.le_of_ble_eq_true rfl⟩ dL_law_399) (fun H locs hT => ?_)
  refine lv_aload_n C.1 C.2.1 dL_law_402 rfl (lv_at hl 2 rfl) ?_
  refine lw_arg (j := 1) C hX hbl hT.2.2 rfl (by omega) hL hl rfl rfl dL_law_403 dL_law_404 dL_law_405 dL_law_406 dL_law_407 ?_
  refine lw_arg (j := 2) C hX hbl hT.2.2 rfl (by omega) hL hl rfl rfl dL_law_408 dL_law_409 dL_law_410 dL_law_411 dL_law_412 ?_
  refine lw_ciM hF hT (lw_runM (np := 2) (rest := [.int r]) C hF hT (c_X9_owner l GM (xs (k + 1)) (xs (k + 2)) MM r MM1 hm1) cl_L_54 rfl hl.1 rfl (Nat.le_of_ble_eq_true rfl) ⟨Nat.le_of_ble_eq_true rfl, Nat.le_of_ble_eq_true rfl⟩ dL_law_413) (fun H locs hT => ?_)
  exact lv_icmp_eq (tgt := 1111) C.1 C.2.1 dL_law_416 (by decide) (fun _ => hn _ _ _ _ _ hR1 hT hl) (fun q => absurd rfl q)
set_option maxHeartbeats 4000000 in
set_option maxRecDepth 100000 in
theorem lc_tie {p : Program} {l : Launch} {e : Env} {s : State} {m : MethodId} {args : Array Value} {below : List Frame} {meth : Method} {c : Code} {H : Heap} {locs : List Loc} {Q : State → Prop} {ls : Array Slot} {GC GM : fz_G} {MC MM : fz_M} {b L k : Nat} {xs : Nat → Int32} {Rel : fz_M → fz_M → Prop} (C : CallFix p m c code 4 s args wsL_law RL) (hF : lw_F GC GM s) (hX : va_X b L xs s s.heap) (hbl : b < s.heap.size) (hL : L ≤ 3072) (hk : k + 5 < L) (hp : ∀ (a0 : Int32) (a1 : Int32), fz_pW Rel (f_X8_tie a0 a1) (f_X9_tie a0 a1)) (hR : Rel MC MM) (hT : lw_T GC GM s MC MM H locs) (hl : lv_has ls 4 [(0, .ref b), (1, .ref (GC.1 0)), (2, .ref (GM.1 0)), (3, .int (nI k))]) (hn : ∀ (MC MM : fz_M) (H : Heap) (locs : List Loc) (ls : Array Slot), Rel MC MM → lw_T GC GM s MC MM H locs → lv_has ls 4 [(0, .ref b), (1, .ref (GC.1 0)), (2, .ref (GM.1 0)), (3, .int (nI k))] → W p l e room_1 s m args below meth c H locs 600000 7302250 Q (F0 m 1111 ls [])) : W p l e room_1 s m args below meth c H locs 600000 7302250 Q (F0 m 421 ls []) := by
  refine lv_aload_n C.1 C.2.1 dL_law_421 rfl (lv_at hl 1 rfl) ?_
  refine lw_arg (j := 1) C hX hbl hT.2.2 rfl (by omega) hL hl rfl rfl dL_law_422 dL_law_423 dL_law_424 dL_law_425 dL_law_426 ?_
  refine lw_arg (j := 2) C hX hbl hT.2.2 rfl (by omega) hL hl rfl rfl dL_law_427 dL_law_428 dL_law_429 dL_law_430 dL_law_431 ?_
  obtain ⟨r, MC1, MM1, hc1, hm1, hR1⟩ := (hp (xs (k + 1)) (xs (k + 2))) MC MM hR
  refine lw_ciC hF hT (lw_runC (np := 2) (rest := []) C hF hT (c_X8_tie l GC (xs (k + 1)) (xs (k + 2)) MC r MC1 hc1) cl_L_55 rfl hl.1 rfl (Nat.le_of_ble_eq_true rfl) ⟨Nat.le_of_ble_eq_true rfl, Nat.le_of_ble_eq_true rfl⟩ dL_law_432) (fun H locs hT => ?_)
  refine lv_aload_n C.1 C.2.1 dL_law_435 rfl (lv_at hl 2 rfl) ?_
  refine lw_arg (j := 1) C hX hbl hT.2.2 rfl (by omega) hL hl rfl rfl dL_law_436 dL_law_437 dL_law_438 dL_law_439 dL_law_440 ?_
  refine lw_arg (j := 2) C hX hbl hT.2.2 rfl (by omega) hL hl rfl rfl dL_law_441 dL_law_442 dL_law_443 dL_law_444 dL_law_445 ?_
  refine lw_ciM hF hT (lw_runM (np := 2) (rest := [.int r]) C hF hT (c_X9_tie l GM (xs (k + 1)) (xs (k + 2)) MM r MM1 hm1) cl_L_58 rfl hl.1 rfl (Nat.le_of_ble_eq_true rfl) ⟨Nat.le_of_ble_eq_true rfl, Nat.le_of_ble_eq_true rfl⟩ dL_law_446) (fun H locs hT => ?_)
  exact lv_icmp_eq (tgt := 1111) C.1 C.2.1 dL_law_449 (by decide) (fun _ => hn _ _ _ _ _ hR1 hT hl) (fun q => absurd rfl q)
set_option maxHeartbeats 4000000 in
set_option maxRecDepth 100000 in
theorem lc_carry {p : Program} {l : Launch} {e : Env} {s : State} {m : MethodId} {args : Array Value} {below : List Frame} {meth : Method} {c : Code} {H : Heap} {locs : List Loc} {Q : State → Prop} {ls : Array Slot} {GC GM : fz_G} {MC MM : fz_M} {b L k : Nat} {xs : Nat → Int32} {Rel : fz_M → fz_M → Prop} (C : CallFix p m c code 4 s args wsL_law RL) (hF : lw_F GC GM s) (hX : va_X b L xs s s.heap) (hbl : b < s.heap.size) (hL : L ≤ 3072) (hk : k + 5 < L) (hp : ∀ (a0 : Int32) (a1 : Int32), fz_pW Rel (f_X8_carry a0 a1) (f_X9_carry a0 a1)) (hR : Rel MC MM) (hT : lw_T GC GM s MC MM H locs) (hl : lv_has ls 4 [(0, .ref b), (1, .ref (GC.1 0)), (2, .ref (GM.1 0)), (3, .int (nI k))]) (hn : ∀ (MC MM : fz_M) (H : Heap) (locs : List Loc) (ls : Array Slot), Rel MC MM → lw_T GC GM s MC MM H locs → lv_has ls 4 [(0, .ref b), (1, .ref (GC.1 0)), (2, .ref (GM.1 0)), (3, .int (nI k))] → W p l e room_1 s m args below meth c H locs 600000 7302250 Q (F0 m 1111 ls [])) : W p l e room_1 s m args below meth c H locs 600000 7302250 Q (F0 m 454 ls []) := by
  refine lv_aload_n C.1 C.2.1 dL_law_454 rfl (lv_at hl 1 rfl) ?_
  refine lw_arg (j := 1) C hX hbl hT.2.2 rfl (by omega) hL hl rfl rfl dL_law_455 dL_law_456 dL_law_457 dL_law_458 dL_law_459 ?_
  refine lw_arg (j := 2) C hX hbl hT.2.2 rfl (by omega) hL hl rfl rfl dL_law_460 dL_law_461 dL_law_462 dL_law_463 dL_law_464 ?_
  obtain ⟨r, MC1, MM1, hc1, hm1, hR1⟩ := (hp (xs (k + 1)) (xs (k + 2))) MC MM hR
  refine lw_ciC hF hT (lw_runC (np := 2) (rest := []) C hF hT (c_X8_carry l GC (xs (k + 1)) (xs (k + 2)) MC r MC1 hc1) cl_L_59 rfl hl.1 rfl (Nat.le_of_ble_eq_true rfl) ⟨Nat.le_of_ble_eq_true rfl, Nat.le_of_ble_eq_true rfl⟩ dL_law_465) (fun H locs hT => ?_)
  refine lv_aload_n C.1 C.2.1 dL_law_468 rfl (lv_at hl 2 rfl) ?_
  refine lw_arg (j := 1) C hX hbl hT.2.2 rfl (by omega) hL hl rfl rfl dL_law_469 dL_law_470 dL_law_471 dL_law_472 dL_law_473 ?_
  refine lw_arg (j := 2) C hX hbl hT.2.2 rfl (by omega) hL hl rfl rfl dL_law_474 dL_law_475 dL_law_476 dL_law_477 dL_law_478 ?_
  refine lw_ciM hF hT (lw_runM (np := 2) (rest := [.int r]) C hF hT (c_X9_carry l GM (xs (k + 1)) (xs (k + 2)) MM r MM1 hm1) cl_L_62 rfl hl.1 rfl (Nat.le_of_ble_eq_true rfl) ⟨Nat.le_of_ble_eq_true rfl, Nat.le_of_ble_eq_true rfl⟩ dL_law_479) (fun H locs hT => ?_)
  exact lv_icmp_eq (tgt := 1111) C.1 C.2.1 dL_law_482 (by decide) (fun _ => hn _ _ _ _ _ hR1 hT hl) (fun q => absurd rfl q)
set_option maxHeartbeats 4000000 in
set_option maxRecDepth 100000 in
theorem lc_shut {p : Program} {l : Launch} {e : Env} {s : State} {m : MethodId} {args : Array Value} {below : List Frame} {meth : Method} {c : Code} {H : Heap} {locs : List Loc} {Q : State → Prop} {ls : Array Slot} {GC GM : fz_G} {MC MM : fz_M} {b L k : Nat} {xs : Nat → Int32} {Rel : fz_M → fz_M → Prop} (C : CallFix p m c code 4 s args wsL_law RL) (hF : lw_F GC GM s) (hX : va_X b L xs s s.heap) (hbl : b < s.heap.size) (hL : L ≤ 3072) (hk : k + 5 < L) (hp0 : ∀ (a0 : Int32), fz_pW Rel (f_X8_shut a0 0) (f_X9_shut a0 0)) (hp1 : ∀ (a0 : Int32), fz_pW Rel (f_X8_shut a0 1) (f_X9_shut a0 1)) (hR : Rel MC MM) (hT : lw_T GC GM s MC MM H locs) (hl : lv_has ls 4 [(0, .ref b), (1, .ref (GC.1 0)), (2, .ref (GM.1 0)), (3, .int (nI k))]) (hn : ∀ (MC MM : fz_M) (H : Heap) (locs : List Loc) (ls : Array Slot), Rel MC MM → lw_T GC GM s MC MM H locs → lv_has ls 4 [(0, .ref b), (1, .ref (GC.1 0)), (2, .ref (GM.1 0)), (3, .int (nI k))] → W p l e room_1 s m args below meth c H locs 600000 7302250 Q (F0 m 1111 ls [])) : W p l e room_1 s m args below meth c H locs 600000 7302250 Q (F0 m 487 ls []) := by
  by_cases hz : xs (k + 2) = 0
  · refine lv_aload_n C.1 C.2.1 dL_law_487 rfl (lv_at hl 1 rfl) ?_
    refine lw_arg (j := 1) C hX hbl hT.2.2 rfl (by omega) hL hl rfl rfl dL_law_488 dL_law_489 dL_law_490 dL_law_491 dL_law_492 ?_
    refine lw_arg (j := 2) C hX hbl hT.2.2 rfl (by omega) hL hl rfl rfl dL_law_493 dL_law_494 dL_law_495 dL_law_496 dL_law_497 ?_
    refine lv_if_eq (tgt := 505) C.1 C.2.1 dL_law_498 (by decide) (fun _ => ?_) (fun q => absurd hz q)
    refine lv_iconst (v := 0) C.1 C.2.1 dL_law_505 (by decide) ?_
    obtain ⟨r, MC1, MM1, hc1, hm1, hR1⟩ := (hp0 (xs (k + 1))) MC MM hR
    refine lw_ciC hF hT (lw_runC (np := 2) (rest := []) C hF hT (c_X8_shut l GC (xs (k + 1)) 0 MC r MC1 hc1) cl_L_63 rfl hl.1 rfl (Nat.le_of_ble_eq_true rfl) ⟨Nat.le_of_ble_eq_true rfl, Nat.le_of_ble_eq_true rfl⟩ dL_law_506) (fun H locs hT => ?_)
    refine lv_aload_n C.1 C.2.1 dL_law_509 rfl (lv_at hl 2 rfl) ?_
    refine lw_arg (j := 1) C hX hbl hT.2.2 rfl (by omega) hL hl rfl rfl dL_law_510 dL_law_511 dL_law_512 dL_law_513 dL_law_514 ?_
    refine lw_arg (j := 2) C hX hbl hT.2.2 rfl (by omega) hL hl rfl rfl dL_law_515 dL_law_516 dL_law_517 dL_law_518 dL_law_519 ?_
    refine lv_if_eq (tgt := 527) C.1 C.2.1 dL_law_520 (by decide) (fun _ => ?_) (fun q => absurd hz q)
    refine lv_iconst (v := 0) C.1 C.2.1 dL_law_527 (by decide) ?_
    refine lw_ciM hF hT (lw_runM (np := 2) (rest := [.int r]) C hF hT (c_X9_shut l GM (xs (k + 1)) 0 MM r MM1 hm1) cl_L_67 rfl hl.1 rfl (Nat.le_of_ble_eq_true rfl) ⟨Nat.le_of_ble_eq_true rfl, Nat.le_of_ble_eq_true rfl⟩ dL_law_528) (fun H locs hT => ?_)
    exact lv_icmp_eq (tgt := 1111) C.1 C.2.1 dL_law_531 (by decide) (fun _ => hn _ _ _ _ _ hR1 hT hl) (fun q => absurd rfl q)
  · refine lv_aload_n C.1 C.2.1 dL_law_487 rfl (lv_at hl 1 rfl) ?_
    refine lw_arg (j := 1) C hX hbl hT.2.2 rfl (by omega) hL hl rfl rfl dL_law_488 dL_law_489 dL_law_490 dL_law_491 dL_law_492 ?_
    refine lw_arg (j := 2) C hX hbl hT.2.2 rfl (by omega) hL hl rfl rfl dL_law_493 dL_law_494 dL_law_495 dL_law_496 dL_law_497 ?_
    refine lv_if_eq (tgt := 505) C.1 C.2.1 dL_law_498 (by decide) (fun q => absurd q hz) (fun _ => ?_)
    refine lv_iconst (v := 1) C.1 C.2.1 dL_law_501 (by decide) ?_
    refine lv_goto (tgt := 506) C.1 C.2.1 dL_law_502 (by decide) ?_
    obtain ⟨r, MC1, MM1, hc1, hm1, hR1⟩ := (hp1 (xs (k + 1))) MC MM hR
    refine lw_ciC hF hT (lw_runC (np := 2) (rest := []) C hF hT (c_X8_shut l GC (xs (k + 1)) 1 MC r MC1 hc1) cl_L_63 rfl hl.1 rfl (Nat.le_of_ble_eq_true rfl) ⟨Nat.le_of_ble_eq_true rfl, Nat.le_of_ble_eq_true rfl⟩ dL_law_506) (fun H locs hT => ?_)
    refine lv_aload_n C.1 C.2.1 dL_law_509 rfl (lv_at hl 2 rfl) ?_
    refine lw_arg (j := 1) C hX hbl hT.2.2 rfl (by omega) hL hl rfl rfl dL_law_510 dL_law_511 dL_law_512 dL_law_513 dL_law_514 ?_
    refine lw_arg (j := 2) C hX hbl hT.2.2 rfl (by omega) hL hl rfl rfl dL_law_515 dL_law_516 dL_law_517 dL_law_518 dL_law_519 ?_
    refine lv_if_eq (tgt := 527) C.1 C.2.1 dL_law_520 (by decide) (fun q => absurd q hz) (fun _ => ?_)
    refine lv_iconst (v := 1) C.1 C.2.1 dL_law_523 (by decide) ?_
    refine lv_goto (tgt := 528) C.1 C.2.1 dL_law_524 (by decide) ?_
    refine lw_ciM hF hT (lw_runM (np := 2) (rest := [.int r]) C hF hT (c_X9_shut l GM (xs (k + 1)) 1 MM r MM1 hm1) cl_L_67 rfl hl.1 rfl (Nat.le_of_ble_eq_true rfl) ⟨Nat.le_of_ble_eq_true rfl, Nat.le_of_ble_eq_true rfl⟩ dL_law_528) (fun H locs hT => ?_)
    exact lv_icmp_eq (tgt := 1111) C.1 C.2.1 dL_law_531 (by decide) (fun _ => hn _ _ _ _ _ hR1 hT hl) (fun q => absurd rfl q)
set_option maxHeartbeats 4000000 in
set_option maxRecDepth 100000 in
theorem lc_deep {p : Program} {l : Launch} {e : Env} {s : State} {m : MethodId} {args : Array Value} {below : List Frame} {meth : Method} {c : Code} {H : Heap} {locs : List Loc} {Q : State → Prop} {ls : Array Slot} {GC GM : fz_G} {MC MM : fz_M} {b L k : Nat} {xs : Nat → Int32} {Rel : fz_M → fz_M → Prop} (C : CallFix p m c code 4 s args wsL_law RL) (hF : lw_F GC GM s) (hX : va_X b L xs s s.heap) (hbl : b < s.heap.size) (hL : L ≤ 3072) (hk : k + 5 < L) (hp : ∀ (a0 : Int32) (a1 : Int32), fz_pP Rel (f_X8_deep a0 a1) (f_X9_deep a0 a1)) (hR : Rel MC MM) (hT : lw_T GC GM s MC MM H locs) (hl : lv_has ls 4 [(0, .ref b), (1, .ref (GC.1 0)), (2, .ref (GM.1 0)), (3, .int (nI k))]) (hn : ∀ (MC MM : fz_M) (H : Heap) (locs : List Loc) (ls : Array Slot), Rel MC MM → lw_T GC GM s MC MM H locs → lv_has ls 4 [(0, .ref b), (1, .ref (GC.1 0)), (2, .ref (GM.1 0)), (3, .int (nI k))] → W p l e room_1 s m args below meth c H locs 600000 7302250 Q (F0 m 1111 ls [])) : W p l e room_1 s m args below meth c H locs 600000 7302250 Q (F0 m 536 ls []) := by
  refine lv_aload_n C.1 C.2.1 dL_law_536 rfl (lv_at hl 1 rfl) ?_
  refine lw_arg (j := 1) C hX hbl hT.2.2 rfl (by omega) hL hl rfl rfl dL_law_537 dL_law_538 dL_law_539 dL_law_540 dL_law_541 ?_
  refine lw_arg (j := 2) C hX hbl hT.2.2 rfl (by omega) hL hl rfl rfl dL_law_542 dL_law_543 dL_law_544 dL_law_545 dL_law_546 ?_
  obtain ⟨r, MM1, hc1, hm1, hR1⟩ := (hp (xs (k + 1)) (xs (k + 2))) MC MM hR
  refine lw_ciC hF hT (lw_runC (np := 2) (rest := []) C hF hT (c_X8_deep l GC (xs (k + 1)) (xs (k + 2)) MC r hc1) cl_L_68 rfl hl.1 rfl (Nat.le_of_ble_eq_true rfl) ⟨Nat.le_of_ble_eq_true rfl, Nat.le_of_ble_eq_true rfl⟩ dL_law_547) (fun H locs hT => ?_)
  refine lv_aload_n C.1 C.2.1 dL_law_550 rfl (lv_at hl 2 rfl) ?_
  refine lw_arg (j := 1) C hX hbl hT.2.2 rfl (by omega) hL hl rfl rfl dL_law_551 dL_law_552 dL_law_553 dL_law_554 dL_law_555 ?_
  refine lw_arg (j := 2) C hX hbl hT.2.2 rfl (by omega) hL hl rfl rfl dL_law_556 dL_law_557 dL_law_558 dL_law_559 dL_law_560 ?_
  refine lw_ciM hF hT (lw_runM (np := 2) (rest := [.int r]) C hF hT (c_X9_deep l GM (xs (k + 1)) (xs (k + 2)) MM r MM1 hm1) cl_L_71 rfl hl.1 rfl (Nat.le_of_ble_eq_true rfl) ⟨Nat.le_of_ble_eq_true rfl, Nat.le_of_ble_eq_true rfl⟩ dL_law_561) (fun H locs hT => ?_)
  exact lv_icmp_eq (tgt := 1111) C.1 C.2.1 dL_law_564 (by decide) (fun _ => hn _ _ _ _ _ hR1 hT hl) (fun q => absurd rfl q)
set_option maxHeartbeats 4000000 in
set_option maxRecDepth 100000 in
theorem lc_hour {p : Program} {l : Launch} {e : Env} {s : State} {m : MethodId} {args : Array Value} {below : List Frame} {meth : Method} {c : Code} {H : Heap} {locs : List Loc} {Q : State → Prop} {ls : Array Slot} {GC GM : fz_G} {MC MM : fz_M} {b L k : Nat} {xs : Nat → Int32} {Rel : fz_M → fz_M → Prop} (C : CallFix p m c code 4 s args wsL_law RL) (hF : lw_F GC GM s) (hX : va_X b L xs s s.heap) (hbl : b < s.heap.size) (hL : L ≤ 3072) (hk : k + 5 < L) (hp : ∀ (a0 : Int32), fz_pW Rel (f_X8_hour a0) (f_X9_hour a0)) (hR : Rel MC MM) (hT : lw_T GC GM s MC MM H locs) (hl : lv_has ls 4 [(0, .ref b), (1, .ref (GC.1 0)), (2, .ref (GM.1 0)), (3, .int (nI k))]) (hn : ∀ (MC MM : fz_M) (H : Heap) (locs : List Loc) (ls : Array Slot), Rel MC MM → lw_T GC GM s MC MM H locs → lv_has ls 4 [(0, .ref b), (1, .ref (GC.1 0)), (2, .ref (GM.1 0)), (3, .int (nI k))] → W p l e room_1 s m args below meth c H locs 600000 7302250 Q (F0 m 1111 ls [])) : W p l e room_1 s m args below meth c H locs 600000 7302250 Q (F0 m 569 ls []) := by
  refine lv_aload_n C.1 C.2.1 dL_law_569 rfl (lv_at hl 1 rfl) ?_
  refine lw_arg (j := 1) C hX hbl hT.2.2 rfl (by omega) hL hl rfl rfl dL_law_570 dL_law_571 dL_law_572 dL_law_573 dL_law_574 ?_
  obtain ⟨r, MC1, MM1, hc1, hm1, hR1⟩ := (hp (xs (k + 1))) MC MM hR
  refine lw_ciC hF hT (lw_runC (np := 1) (rest := []) C hF hT (c_X8_hour l GC (xs (k + 1)) MC r MC1 hc1) cl_L_72 rfl hl.1 rfl (Nat.le_of_ble_eq_true rfl) ⟨Nat.le_of_ble_eq_true rfl, Nat.le_of_ble_eq_true rfl⟩ dL_law_575) (fun H locs hT => ?_)
  refine lv_aload_n C.1 C.2.1 dL_law_578 rfl (lv_at hl 2 rfl) ?_
  refine lw_arg (j := 1) C hX hbl hT.2.2 rfl (by omega) hL hl rfl rfl dL_law_579 dL_law_580 dL_law_581 dL_law_582 dL_law_583 ?_
  refine lw_ciM hF hT (lw_runM (np := 1) (rest := [.int r]) C hF hT (c_X9_hour l GM (xs (k + 1)) MM r MM1 hm1) cl_L_75 rfl hl.1 rfl (Nat.le_of_ble_eq_true rfl) ⟨Nat.le_of_ble_eq_true rfl, Nat.le_of_ble_eq_true rfl⟩ dL_law_584) (fun H locs hT => ?_)
  exact lv_icmp_eq (tgt := 1111) C.1 C.2.1 dL_law_587 (by decide) (fun _ => hn _ _ _ _ _ hR1 hT hl) (fun q => absurd rfl q)
set_option maxHeartbeats 4000000 in
set_option maxRecDepth 100000 in
theorem lc_jams {p : Program} {l : Launch} {e : Env} {s : State} {m : MethodId} {args : Array Value} {below : List Frame} {meth : Method} {c : Code} {H : Heap} {locs : List Loc} {Q : State → Prop} {ls : Array Slot} {GC GM : fz_G} {MC MM : fz_M} {b L k : Nat} {xs : Nat → Int32} {Rel : fz_M → fz_M → Prop} (C : CallFix p m c code 4 s args wsL_law RL) (hF : lw_F GC GM s) (hX : va_X b L xs s s.heap) (hbl : b < s.heap.size) (hL : L ≤ 3072) (hk : k + 5 < L) (hp : ∀ (a0 : Int32), fz_pW Rel (f_X8_jams a0) (f_X9_jams a0)) (hR : Rel MC MM) (hT : lw_T GC GM s MC MM H locs) (hl : lv_has ls 4 [(0, .ref b), (1, .ref (GC.1 0)), (2, .ref (GM.1 0)), (3, .int (nI k))]) (hn : ∀ (MC MM : fz_M) (H : Heap) (locs : List Loc) (ls : Array Slot), Rel MC MM → lw_T GC GM s MC MM H locs → lv_has ls 4 [(0, .ref b), (1, .ref (GC.1 0)), (2, .ref (GM.1 0)), (3, .int (nI k))] → W p l e room_1 s m args below meth c H locs 600000 7302250 Q (F0 m 1111 ls [])) : W p l e room_1 s m args below meth c H locs 600000 7302250 Q (F0 m 592 ls []) := by
  refine lv_aload_n C.1 C.2.1 dL_law_592 rfl (lv_at hl 1 rfl) ?_
  refine lw_arg (j := 1) C hX hbl hT.2.2 rfl (by omega) hL hl rfl rfl dL_law_593 dL_law_594 dL_law_595 dL_law_596 dL_law_597 ?_
  obtain ⟨r, MC1, MM1, hc1, hm1, hR1⟩ := (hp (xs (k + 1))) MC MM hR
  refine lw_ciC hF hT (lw_runC (np := 1) (rest := []) C hF hT (c_X8_jams l GC (xs (k + 1)) MC r MC1 hc1) cl_L_76 rfl hl.1 rfl (Nat.le_of_ble_eq_true rfl) ⟨Nat.le_of_ble_eq_true rfl, Nat.le_of_ble_eq_true rfl⟩ dL_law_598) (fun H locs hT => ?_)
  refine lv_aload_n C.1 C.2.1 dL_law_601 rfl (lv_at hl 2 rfl) ?_
  refine lw_arg (j := 1) C hX hbl hT.2.2 rfl (by omega) hL hl rfl rfl dL_law_602 dL_law_603 dL_law_604 dL_law_605 dL_law_606 ?_
  refine lw_ciM hF hT (lw_runM (np := 1) (rest := [.int r]) C hF hT (c_X9_jams l GM (xs (k + 1)) MM r MM1 hm1) cl_L_79 rfl hl.1 rfl (Nat.le_of_ble_eq_true rfl) ⟨Nat.le_of_ble_eq_true rfl, Nat.le_of_ble_eq_true rfl⟩ dL_law_607) (fun H locs hT => ?_)
  exact lv_icmp_eq (tgt := 1111) C.1 C.2.1 dL_law_610 (by decide) (fun _ => hn _ _ _ _ _ hR1 hT hl) (fun q => absurd rfl q)
set_option maxHeartbeats 4000000 in
set_option maxRecDepth 100000 in
theorem lc_spring {p : Program} {l : Launch} {e : Env} {s : State} {m : MethodId} {args : Array Value} {below : List Frame} {meth : Method} {c : Code} {H : Heap} {locs : List Loc} {Q : State → Prop} {ls : Array Slot} {GC GM : fz_G} {MC MM : fz_M} {b L k : Nat} {xs : Nat → Int32} {Rel : fz_M → fz_M → Prop} (C : CallFix p m c code 4 s args wsL_law RL) (hF : lw_F GC GM s) (hX : va_X b L xs s s.heap) (hbl : b < s.heap.size) (hL : L ≤ 3072) (hk : k + 5 < L) (hp : fz_pW Rel (f_X8_spring) (f_X9_spring)) (hR : Rel MC MM) (hT : lw_T GC GM s MC MM H locs) (hl : lv_has ls 4 [(0, .ref b), (1, .ref (GC.1 0)), (2, .ref (GM.1 0)), (3, .int (nI k))]) (hn : ∀ (MC MM : fz_M) (H : Heap) (locs : List Loc) (ls : Array Slot), Rel MC MM → lw_T GC GM s MC MM H locs → lv_has ls 4 [(0, .ref b), (1, .ref (GC.1 0)), (2, .ref (GM.1 0)), (3, .int (nI k))] → W p l e room_1 s m args below meth c H locs 600000 7302250 Q (F0 m 1111 ls [])) : W p l e room_1 s m args below meth c H locs 600000 7302250 Q (F0 m 615 ls []) := by
  refine lv_aload_n C.1 C.2.1 dL_law_615 rfl (lv_at hl 1 rfl) ?_
  obtain ⟨r, MC1, MM1, hc1, hm1, hR1⟩ := hp MC MM hR
  refine lw_ciC hF hT (lw_runC (np := 0) (rest := []) C hF hT (c_X8_spring l GC MC r MC1 hc1) cl_L_80 rfl hl.1 rfl (Nat.le_of_ble_eq_true rfl) ⟨Nat.le_of_ble_eq_true rfl, Nat.le_of_ble_eq_true rfl⟩ dL_law_616) (fun H locs hT => ?_)
  refine lv_aload_n C.1 C.2.1 dL_law_619 rfl (lv_at hl 2 rfl) ?_
  refine lw_ciM hF hT (lw_runM (np := 0) (rest := [.int r]) C hF hT (c_X9_spring l GM MM r MM1 hm1) cl_L_83 rfl hl.1 rfl (Nat.le_of_ble_eq_true rfl) ⟨Nat.le_of_ble_eq_true rfl, Nat.le_of_ble_eq_true rfl⟩ dL_law_620) (fun H locs hT => ?_)
  exact lv_icmp_eq (tgt := 1111) C.1 C.2.1 dL_law_623 (by decide) (fun _ => hn _ _ _ _ _ hR1 hT hl) (fun q => absurd rfl q)
set_option maxHeartbeats 4000000 in
set_option maxRecDepth 100000 in
theorem lc_undo {p : Program} {l : Launch} {e : Env} {s : State} {m : MethodId} {args : Array Value} {below : List Frame} {meth : Method} {c : Code} {H : Heap} {locs : List Loc} {Q : State → Prop} {ls : Array Slot} {GC GM : fz_G} {MC MM : fz_M} {b L k : Nat} {xs : Nat → Int32} {Rel : fz_M → fz_M → Prop} (C : CallFix p m c code 4 s args wsL_law RL) (hF : lw_F GC GM s) (hX : va_X b L xs s s.heap) (hbl : b < s.heap.size) (hL : L ≤ 3072) (hk : k + 5 < L) (hp : fz_pW Rel (f_X8_undo) (f_X9_undo)) (hR : Rel MC MM) (hT : lw_T GC GM s MC MM H locs) (hl : lv_has ls 4 [(0, .ref b), (1, .ref (GC.1 0)), (2, .ref (GM.1 0)), (3, .int (nI k))]) (hn : ∀ (MC MM : fz_M) (H : Heap) (locs : List Loc) (ls : Array Slot), Rel MC MM → lw_T GC GM s MC MM H locs → lv_has ls 4 [(0, .ref b), (1, .ref (GC.1 0)), (2, .ref (GM.1 0)), (3, .int (nI k))] → W p l e room_1 s m args below meth c H locs 600000 7302250 Q (F0 m 1111 ls [])) : W p l e room_1 s m args below meth c H locs 600000 7302250 Q (F0 m 628 ls []) := by
  refine lv_aload_n C.1 C.2.1 dL_law_628 rfl (lv_at hl 1 rfl) ?_
  obtain ⟨r, MC1, MM1, hc1, hm1, hR1⟩ := hp MC MM hR
  refine lw_ciC hF hT (lw_runC (np := 0) (rest := []) C hF hT (c_X8_undo l GC MC r MC1 hc1) cl_L_84 rfl hl.1 rfl (Nat.le_of_ble_eq_true rfl) ⟨Nat.le_of_ble_eq_true rfl, Nat.le_of_ble_eq_true rfl⟩ dL_law_629) (fun H locs hT => ?_)
  refine lv_aload_n C.1 C.2.1 dL_law_632 rfl (lv_at hl 2 rfl) ?_
  refine lw_ciM hF hT (lw_runM (np := 0) (rest := [.int r]) C hF hT (c_X9_undo l GM MM r MM1 hm1) cl_L_87 rfl hl.1 rfl (Nat.le_of_ble_eq_true rfl) ⟨Nat.le_of_ble_eq_true rfl, Nat.le_of_ble_eq_true rfl⟩ dL_law_633) (fun H locs hT => ?_)
  exact lv_icmp_eq (tgt := 1111) C.1 C.2.1 dL_law_636 (by decide) (fun _ => hn _ _ _ _ _ hR1 hT hl) (fun q => absurd rfl q)
set_option maxHeartbeats 4000000 in
set_option maxRecDepth 100000 in
theorem lc_after {p : Program} {l : Launch} {e : Env} {s : State} {m : MethodId} {args : Array Value} {below : List Frame} {meth : Method} {c : Code} {H : Heap} {locs : List Loc} {Q : State → Prop} {ls : Array Slot} {GC GM : fz_G} {MC MM : fz_M} {b L k : Nat} {xs : Nat → Int32} {Rel : fz_M → fz_M → Prop} (C : CallFix p m c code 4 s args wsL_law RL) (hF : lw_F GC GM s) (hX : va_X b L xs s s.heap) (hbl : b < s.heap.size) (hL : L ≤ 3072) (hk : k + 5 < L) (hp : ∀ (a0 : Int32) (a1 : Int32) (a2 : Int32), fz_pW Rel (f_X8_after a0 a1 a2) (f_X9_after a0 a1 a2)) (hR : Rel MC MM) (hT : lw_T GC GM s MC MM H locs) (hl : lv_has ls 4 [(0, .ref b), (1, .ref (GC.1 0)), (2, .ref (GM.1 0)), (3, .int (nI k))]) (hn : ∀ (MC MM : fz_M) (H : Heap) (locs : List Loc) (ls : Array Slot), Rel MC MM → lw_T GC GM s MC MM H locs → lv_has ls 4 [(0, .ref b), (1, .ref (GC.1 0)), (2, .ref (GM.1 0)), (3, .int (nI k))] → W p l e room_1 s m args below meth c H locs 600000 7302250 Q (F0 m 1111 ls [])) : W p l e room_1 s m args below meth c H locs 600000 7302250 Q (F0 m 641 ls []) := by
  refine lv_aload_n C.1 C.2.1 dL_law_641 rfl (lv_at hl 1 rfl) ?_
  refine lw_arg (j := 1) C hX hbl hT.2.2 rfl (by omega) hL hl rfl rfl dL_law_642 dL_law_643 dL_law_644 dL_law_645 dL_law_646 ?_
  refine lw_arg (j := 2) C hX hbl hT.2.2 rfl (by omega) hL hl rfl rfl dL_law_647 dL_law_648 dL_law_649 dL_law_650 dL_law_651 ?_
  refine lw_arg (j := 3) C hX hbl hT.2.2 rfl (by omega) hL hl rfl rfl dL_law_652 dL_law_653 dL_law_654 dL_law_655 dL_law_656 ?_
  obtain ⟨r, MC1, MM1, hc1, hm1, hR1⟩ := (hp (xs (k + 1)) (xs (k + 2)) (xs (k + 3))) MC MM hR
  refine lw_ciC hF hT (lw_runC (np := 3) (rest := []) C hF hT (c_X8_after l GC (xs (k + 1)) (xs (k + 2)) (xs (k + 3)) MC r MC1 hc1) cl_L_88 rfl hl.1 rfl (Nat.le_of_ble_eq_true rfl) ⟨Nat.le_of_ble_eq_true rfl, Nat.le_of_ble_eq_true rfl⟩ dL_law_657) (fun H locs hT => ?_)
  refine lv_aload_n C.1 C.2.1 dL_law_660 rfl (lv_at hl 2 rfl) ?_
  refine lw_arg (j := 1) C hX hbl hT.2.2 rfl (by omega) hL hl rfl rfl dL_law_661 dL_law_662 dL_law_663 dL_law_664 dL_law_665 ?_
  refine lw_arg (j := 2) C hX hbl hT.2.2 rfl (by omega) hL hl rfl rfl dL_law_666 dL_law_667 dL_law_668 dL_law_669 dL_law_670 ?_
  refine lw_arg (j := 3) C hX hbl hT.2.2 rfl (by omega) hL hl rfl rfl dL_law_671 dL_law_672 dL_law_673 dL_law_674 dL_law_675 ?_
  refine lw_ciM hF hT (lw_runM (np := 3) (rest := [.int r]) C hF hT (c_X9_after l GM (xs (k + 1)) (xs (k + 2)) (xs (k + 3)) MM r MM1 hm1) cl_L_92 rfl hl.1 rfl (Nat.le_of_ble_eq_true rfl) ⟨Nat.le_of_ble_eq_true rfl, Nat.le_of_ble_eq_true rfl⟩ dL_law_676) (fun H locs hT => ?_)
  exact lv_icmp_eq (tgt := 1111) C.1 C.2.1 dL_law_679 (by decide) (fun _ => hn _ _ _ _ _ hR1 hT hl) (fun q => absurd rfl q)
set_option maxHeartbeats 4000000 in
set_option maxRecDepth 100000 in
theorem lc_ties {p : Program} {l : Launch} {e : Env} {s : State} {m : MethodId} {args : Array Value} {below : List Frame} {meth : Method} {c : Code} {H : Heap} {locs : List Loc} {Q : State → Prop} {ls : Array Slot} {GC GM : fz_G} {MC MM : fz_M} {b L k : Nat} {xs : Nat → Int32} {Rel : fz_M → fz_M → Prop} (C : CallFix p m c code 4 s args wsL_law RL) (hF : lw_F GC GM s) (hX : va_X b L xs s s.heap) (hbl : b < s.heap.size) (hL : L ≤ 3072) (hk : k + 5 < L) (hp0 : ∀ (a0 : Int32) (a1 : Int32) (a2 : Int32), fz_pW Rel (f_X8_ties a0 a1 a2 0) (f_X9_ties a0 a1 a2 0)) (hp1 : ∀ (a0 : Int32) (a1 : Int32) (a2 : Int32), fz_pW Rel (f_X8_ties a0 a1 a2 1) (f_X9_ties a0 a1 a2 1)) (hR : Rel MC MM) (hT : lw_T GC GM s MC MM H locs) (hl : lv_has ls 4 [(0, .ref b), (1, .ref (GC.1 0)), (2, .ref (GM.1 0)), (3, .int (nI k))]) (hn : ∀ (MC MM : fz_M) (H : Heap) (locs : List Loc) (ls : Array Slot), Rel MC MM → lw_T GC GM s MC MM H locs → lv_has ls 4 [(0, .ref b), (1, .ref (GC.1 0)), (2, .ref (GM.1 0)), (3, .int (nI k))] → W p l e room_1 s m args below meth c H locs 600000 7302250 Q (F0 m 1111 ls [])) : W p l e room_1 s m args below meth c H locs 600000 7302250 Q (F0 m 684 ls []) := by
  by_cases hz : xs (k + 4) = 0
  · refine lv_aload_n C.1 C.2.1 dL_law_684 rfl (lv_at hl 1 rfl) ?_
    refine lw_arg (j := 1) C hX hbl hT.2.2 rfl (by omega) hL hl rfl rfl dL_law_685 dL_law_686 dL_law_687 dL_law_688 dL_law_689 ?_
    refine lw_arg (j := 2) C hX hbl hT.2.2 rfl (by omega) hL hl rfl rfl dL_law_690 dL_law_691 dL_law_692 dL_law_693 dL_law_694 ?_
    refine lw_arg (j := 3) C hX hbl hT.2.2 rfl (by omega) hL hl rfl rfl dL_law_695 dL_law_696 dL_law_697 dL_law_698 dL_law_699 ?_
    refine lw_arg (j := 4) C hX hbl hT.2.2 rfl (by omega) hL hl rfl rfl dL_law_700 dL_law_701 dL_law_702 dL_law_703 dL_law_704 ?_
    refine lv_if_eq (tgt := 712) C.1 C.2.1 dL_law_705 (by decide) (fun _ => ?_) (fun q => absurd hz q)
    refine lv_iconst (v := 0) C.1 C.2.1 dL_law_712 (by decide) ?_
    obtain ⟨r, MC1, MM1, hc1, hm1, hR1⟩ := (hp0 (xs (k + 1)) (xs (k + 2)) (xs (k + 3))) MC MM hR
    refine lw_ciC hF hT (lw_runC (np := 4) (rest := []) C hF hT (c_X8_ties l GC (xs (k + 1)) (xs (k + 2)) (xs (k + 3)) 0 MC r MC1 hc1) cl_L_93 rfl hl.1 rfl (Nat.le_of_ble_eq_true rfl) ⟨Nat.le_of_ble_eq_true rfl, Nat.le_of_ble_eq_true rfl⟩ dL_law_713) (fun H locs hT => ?_)
    refine lv_aload_n C.1 C.2.1 dL_law_716 rfl (lv_at hl 2 rfl) ?_
    refine lw_arg (j := 1) C hX hbl hT.2.2 rfl (by omega) hL hl rfl rfl dL_law_717 dL_law_718 dL_law_719 dL_law_720 dL_law_721 ?_
    refine lw_arg (j := 2) C hX hbl hT.2.2 rfl (by omega) hL hl rfl rfl dL_law_722 dL_law_723 dL_law_724 dL_law_725 dL_law_726 ?_
    refine lw_arg (j := 3) C hX hbl hT.2.2 rfl (by omega) hL hl rfl rfl dL_law_727 dL_law_728 dL_law_729 dL_law_730 dL_law_731 ?_
    refine lw_arg (j := 4) C hX hbl hT.2.2 rfl (by omega) hL hl rfl rfl dL_law_732 dL_law_733 dL_law_734 dL_law_735 dL_law_736 ?_
    refine lv_if_eq (tgt := 744) C.1 C.2.1 dL_law_737 (by decide) (fun _ => ?_) (fun q => absurd hz q)
    refine lv_iconst (v := 0) C.1 C.2.1 dL_law_744 (by decide) ?_
    refine lw_ciM hF hT (lw_runM (np := 4) (rest := [.int r]) C hF hT (c_X9_ties l GM (xs (k + 1)) (xs (k + 2)) (xs (k + 3)) 0 MM r MM1 hm1) cl_L_97 rfl hl.1 rfl (Nat.le_of_ble_eq_true rfl) ⟨Nat.le_of_ble_eq_true rfl, Nat.le_of_ble_eq_true rfl⟩ dL_law_745) (fun H locs hT => ?_)
    exact lv_icmp_eq (tgt := 1111) C.1 C.2.1 dL_law_748 (by decide) (fun _ => hn _ _ _ _ _ hR1 hT hl) (fun q => absurd rfl q)
  · refine lv_aload_n C.1 C.2.1 dL_law_684 rfl (lv_at hl 1 rfl) ?_
    refine lw_arg (j := 1) C hX hbl hT.2.2 rfl (by omega) hL hl rfl rfl dL_law_685 dL_law_686 dL_law_687 dL_law_688 dL_law_689 ?_
    refine lw_arg (j := 2) C hX hbl hT.2.2 rfl (by omega) hL hl rfl rfl dL_law_690 dL_law_691 dL_law_692 dL_law_693 dL_law_694 ?_
    refine lw_arg (j := 3) C hX hbl hT.2.2 rfl (by omega) hL hl rfl rfl dL_law_695 dL_law_696 dL_law_697 dL_law_698 dL_law_699 ?_
    refine lw_arg (j := 4) C hX hbl hT.2.2 rfl (by omega) hL hl rfl rfl dL_law_700 dL_law_701 dL_law_702 dL_law_703 dL_law_704 ?_
    refine lv_if_eq (tgt := 712) C.1 C.2.1 dL_law_705 (by decide) (fun q => absurd q hz) (fun _ => ?_)
    refine lv_iconst (v := 1) C.1 C.2.1 dL_law_708 (by decide) ?_
    refine lv_goto (tgt := 713) C.1 C.2.1 dL_law_709 (by decide) ?_
    obtain ⟨r, MC1, MM1, hc1, hm1, hR1⟩ := (hp1 (xs (k + 1)) (xs (k + 2)) (xs (k + 3))) MC MM hR
    refine lw_ciC hF hT (lw_runC (np := 4) (rest := []) C hF hT (c_X8_ties l GC (xs (k + 1)) (xs (k + 2)) (xs (k + 3)) 1 MC r MC1 hc1) cl_L_93 rfl hl.1 rfl (Nat.le_of_ble_eq_true rfl) ⟨Nat.le_of_ble_eq_true rfl, Nat.le_of_ble_eq_true rfl⟩ dL_law_713) (fun H locs hT => ?_)
    refine lv_aload_n C.1 C.2.1 dL_law_716 rfl (lv_at hl 2 rfl) ?_
    refine lw_arg (j := 1) C hX hbl hT.2.2 rfl (by omega) hL hl rfl rfl dL_law_717 dL_law_718 dL_law_719 dL_law_720 dL_law_721 ?_
    refine lw_arg (j := 2) C hX hbl hT.2.2 rfl (by omega) hL hl rfl rfl dL_law_722 dL_law_723 dL_law_724 dL_law_725 dL_law_726 ?_
    refine lw_arg (j := 3) C hX hbl hT.2.2 rfl (by omega) hL hl rfl rfl dL_law_727 dL_law_728 dL_law_729 dL_law_730 dL_law_731 ?_
    refine lw_arg (j := 4) C hX hbl hT.2.2 rfl (by omega) hL hl rfl rfl dL_law_732 dL_law_733 dL_law_734 dL_law_735 dL_law_736 ?_
    refine lv_if_eq (tgt := 744) C.1 C.2.1 dL_law_737 (by decide) (fun q => absurd q hz) (fun _ => ?_)
    refine lv_iconst (v := 1) C.1 C.2.1 dL_law_740 (by decide) ?_
    refine lv_goto (tgt := 745) C.1 C.2.1 dL_law_741 (by decide) ?_
    refine lw_ciM hF hT (lw_runM (np := 4) (rest := [.int r]) C hF hT (c_X9_ties l GM (xs (k + 1)) (xs (k + 2)) (xs (k + 3)) 1 MM r MM1 hm1) cl_L_97 rfl hl.1 rfl (Nat.le_of_ble_eq_true rfl) ⟨Nat.le_of_ble_eq_true rfl, Nat.le_of_ble_eq_true rfl⟩ dL_law_745) (fun H locs hT => ?_)
    exact lv_icmp_eq (tgt := 1111) C.1 C.2.1 dL_law_748 (by decide) (fun _ => hn _ _ _ _ _ hR1 hT hl) (fun q => absurd rfl q)
set_option maxHeartbeats 4000000 in
set_option maxRecDepth 100000 in
theorem lc_dowry {p : Program} {l : Launch} {e : Env} {s : State} {m : MethodId} {args : Array Value} {below : List Frame} {meth : Method} {c : Code} {H : Heap} {locs : List Loc} {Q : State → Prop} {ls : Array Slot} {GC GM : fz_G} {MC MM : fz_M} {b L k : Nat} {xs : Nat → Int32} {Rel : fz_M → fz_M → Prop} (C : CallFix p m c code 4 s args wsL_law RL) (hF : lw_F GC GM s) (hX : va_X b L xs s s.heap) (hbl : b < s.heap.size) (hL : L ≤ 3072) (hk : k + 5 < L) (hp : ∀ (a0 : Int32) (a1 : Int32) (a2 : Int32) (a3 : Int32), fz_pW Rel (f_X8_dowry a0 a1 a2 a3) (f_X9_dowry a0 a1 a2 a3)) (hR : Rel MC MM) (hT : lw_T GC GM s MC MM H locs) (hl : lv_has ls 4 [(0, .ref b), (1, .ref (GC.1 0)), (2, .ref (GM.1 0)), (3, .int (nI k))]) (hn : ∀ (MC MM : fz_M) (H : Heap) (locs : List Loc) (ls : Array Slot), Rel MC MM → lw_T GC GM s MC MM H locs → lv_has ls 4 [(0, .ref b), (1, .ref (GC.1 0)), (2, .ref (GM.1 0)), (3, .int (nI k))] → W p l e room_1 s m args below meth c H locs 600000 7302250 Q (F0 m 1111 ls [])) : W p l e room_1 s m args below meth c H locs 600000 7302250 Q (F0 m 753 ls []) := by
  refine lv_aload_n C.1 C.2.1 dL_law_753 rfl (lv_at hl 1 rfl) ?_
  refine lw_arg (j := 1) C hX hbl hT.2.2 rfl (by omega) hL hl rfl rfl dL_law_754 dL_law_755 dL_law_756 dL_law_757 dL_law_758 ?_
  refine lw_arg (j := 2) C hX hbl hT.2.2 rfl (by omega) hL hl rfl rfl dL_law_759 dL_law_760 dL_law_761 dL_law_762 dL_law_763 ?_
  refine lw_arg (j := 3) C hX hbl hT.2.2 rfl (by omega) hL hl rfl rfl dL_law_764 dL_law_765 dL_law_766 dL_law_767 dL_law_768 ?_
  refine lw_arg (j := 4) C hX hbl hT.2.2 rfl (by omega) hL hl rfl rfl dL_law_769 dL_law_770 dL_law_771 dL_law_772 dL_law_773 ?_
  obtain ⟨r, MC1, MM1, hc1, hm1, hR1⟩ := (hp (xs (k + 1)) (xs (k + 2)) (xs (k + 3)) (xs (k + 4))) MC MM hR
  refine lw_ciC hF hT (lw_runC (np := 4) (rest := []) C hF hT (c_X8_dowry l GC (xs (k + 1)) (xs (k + 2)) (xs (k + 3)) (xs (k + 4)) MC r MC1 hc1) cl_L_98 rfl hl.1 rfl (Nat.le_of_ble_eq_true rfl) ⟨Nat.le_of_ble_eq_true rfl, Nat.le_of_ble_eq_true rfl⟩ dL_law_774) (fun H locs hT => ?_)
  refine lv_aload_n C.1 C.2.1 dL_law_777 rfl (lv_at hl 2 rfl) ?_
  refine lw_arg (j := 1) C hX hbl hT.2.2 rfl (by omega) hL hl rfl rfl dL_law_778 dL_law_779 dL_law_780 dL_law_781 dL_law_782 ?_
  refine lw_arg (j := 2) C hX hbl hT.2.2 rfl (by omega) hL hl rfl rfl dL_law_783 dL_law_784 dL_law_785 dL_law_786 dL_law_787 ?_
  refine lw_arg (j := 3) C hX hbl hT.2.2 rfl (by omega) hL hl rfl rfl dL_law_788 dL_law_789 dL_law_790 dL_law_791 dL_law_792 ?_
  refine lw_arg (j := 4) C hX hbl hT.2.2 rfl (by omega) hL hl rfl rfl dL_law_793 dL_law_794 dL_law_795 dL_law_796 dL_law_797 ?_
  refine lw_ciM hF hT (lw_runM (np := 4) (rest := [.int r]) C hF hT (c_X9_dowry l GM (xs (k + 1)) (xs (k + 2)) (xs (k + 3)) (xs (k + 4)) MM r MM1 hm1) cl_L_102 rfl hl.1 rfl (Nat.le_of_ble_eq_true rfl) ⟨Nat.le_of_ble_eq_true rfl, Nat.le_of_ble_eq_true rfl⟩ dL_law_798) (fun H locs hT => ?_)
  exact lv_icmp_eq (tgt := 1111) C.1 C.2.1 dL_law_801 (by decide) (fun _ => hn _ _ _ _ _ hR1 hT hl) (fun q => absurd rfl q)
set_option maxHeartbeats 4000000 in
set_option maxRecDepth 100000 in
theorem lc_toShut {p : Program} {l : Launch} {e : Env} {s : State} {m : MethodId} {args : Array Value} {below : List Frame} {meth : Method} {c : Code} {H : Heap} {locs : List Loc} {Q : State → Prop} {ls : Array Slot} {GC GM : fz_G} {MC MM : fz_M} {b L k : Nat} {xs : Nat → Int32} {Rel : fz_M → fz_M → Prop} (C : CallFix p m c code 4 s args wsL_law RL) (hF : lw_F GC GM s) (hX : va_X b L xs s s.heap) (hbl : b < s.heap.size) (hL : L ≤ 3072) (hk : k + 5 < L) (hp : ∀ (a0 : Int32) (a1 : Int32) (a2 : Int32), fz_pW Rel (f_X8_toShut a0 a1 a2) (f_X9_toShut a0 a1 a2)) (hR : Rel MC MM) (hT : lw_T GC GM s MC MM H locs) (hl : lv_has ls 4 [(0, .ref b), (1, .ref (GC.1 0)), (2, .ref (GM.1 0)), (3, .int (nI k))]) (hn : ∀ (MC MM : fz_M) (H : Heap) (locs : List Loc) (ls : Array Slot), Rel MC MM → lw_T GC GM s MC MM H locs → lv_has ls 4 [(0, .ref b), (1, .ref (GC.1 0)), (2, .ref (GM.1 0)), (3, .int (nI k))] → W p l e room_1 s m args below meth c H locs 600000 7302250 Q (F0 m 1111 ls [])) : W p l e room_1 s m args below meth c H locs 600000 7302250 Q (F0 m 806 ls []) := by
  refine lv_aload_n C.1 C.2.1 dL_law_806 rfl (lv_at hl 1 rfl) ?_
  refine lw_arg (j := 1) C hX hbl hT.2.2 rfl (by omega) hL hl rfl rfl dL_law_807 dL_law_808 dL_law_809 dL_law_810 dL_law_811 ?_
  refine lw_arg (j := 2) C hX hbl hT.2.2 rfl (by omega) hL hl rfl rfl dL_law_812 dL_law_813 dL_law_814 dL_law_815 dL_law_816 ?_
  refine lw_arg (j := 3) C hX hbl hT.2.2 rfl (by omega) hL hl rfl rfl dL_law_817 dL_law_818 dL_law_819 dL_law_820 dL_law_821 ?_
  obtain ⟨r, MC1, MM1, hc1, hm1, hR1⟩ := (hp (xs (k + 1)) (xs (k + 2)) (xs (k + 3))) MC MM hR
  refine lw_ciC hF hT (lw_runC (np := 3) (rest := []) C hF hT (c_X8_toShut l GC (xs (k + 1)) (xs (k + 2)) (xs (k + 3)) MC r MC1 hc1) cl_L_103 rfl hl.1 rfl (Nat.le_of_ble_eq_true rfl) ⟨Nat.le_of_ble_eq_true rfl, Nat.le_of_ble_eq_true rfl⟩ dL_law_822) (fun H locs hT => ?_)
  refine lv_aload_n C.1 C.2.1 dL_law_825 rfl (lv_at hl 2 rfl) ?_
  refine lw_arg (j := 1) C hX hbl hT.2.2 rfl (by omega) hL hl rfl rfl dL_law_826 dL_law_827 dL_law_828 dL_law_829 dL_law_830 ?_
  refine lw_arg (j := 2) C hX hbl hT.2.2 rfl (by omega) hL hl rfl rfl dL_law_831 dL_law_832 dL_law_833 dL_law_834 dL_law_835 ?_
  refine lw_arg (j := 3) C hX hbl hT.2.2 rfl (by omega) hL hl rfl rfl dL_law_836 dL_law_837 dL_law_838 dL_law_839 dL_law_840 ?_
  refine lw_ciM hF hT (lw_runM (np := 3) (rest := [.int r]) C hF hT (c_X9_toShut l GM (xs (k + 1)) (xs (k + 2)) (xs (k + 3)) MM r MM1 hm1) cl_L_106 rfl hl.1 rfl (Nat.le_of_ble_eq_true rfl) ⟨Nat.le_of_ble_eq_true rfl, Nat.le_of_ble_eq_true rfl⟩ dL_law_841) (fun H locs hT => ?_)
  exact lv_icmp_eq (tgt := 1111) C.1 C.2.1 dL_law_844 (by decide) (fun _ => hn _ _ _ _ _ hR1 hT hl) (fun q => absurd rfl q)
set_option maxHeartbeats 4000000 in
set_option maxRecDepth 100000 in
theorem lc_drawn {p : Program} {l : Launch} {e : Env} {s : State} {m : MethodId} {args : Array Value} {below : List Frame} {meth : Method} {c : Code} {H : Heap} {locs : List Loc} {Q : State → Prop} {ls : Array Slot} {GC GM : fz_G} {MC MM : fz_M} {b L k : Nat} {xs : Nat → Int32} {Rel : fz_M → fz_M → Prop} (C : CallFix p m c code 4 s args wsL_law RL) (hF : lw_F GC GM s) (hX : va_X b L xs s s.heap) (hbl : b < s.heap.size) (hL : L ≤ 3072) (hk : k + 5 < L) (hp0 : ∀ (a0 : Int32) (a1 : Int32) (a2 : Int32) (a3 : Int32), fz_pW Rel (f_X8_drawn a0 a1 a2 a3 0) (f_X9_drawn a0 a1 a2 a3 0)) (hp1 : ∀ (a0 : Int32) (a1 : Int32) (a2 : Int32) (a3 : Int32), fz_pW Rel (f_X8_drawn a0 a1 a2 a3 1) (f_X9_drawn a0 a1 a2 a3 1)) (hR : Rel MC MM) (hT : lw_T GC GM s MC MM H locs) (hl : lv_has ls 4 [(0, .ref b), (1, .ref (GC.1 0)), (2, .ref (GM.1 0)), (3, .int (nI k))]) (hn : ∀ (MC MM : fz_M) (H : Heap) (locs : List Loc) (ls : Array Slot), Rel MC MM → lw_T GC GM s MC MM H locs → lv_has ls 4 [(0, .ref b), (1, .ref (GC.1 0)), (2, .ref (GM.1 0)), (3, .int (nI k))] → W p l e room_1 s m args below meth c H locs 600000 7302250 Q (F0 m 1111 ls [])) : W p l e room_1 s m args below meth c H locs 600000 7302250 Q (F0 m 849 ls []) := by
  by_cases hz : xs (k + 5) = 0
  · refine lv_aload_n C.1 C.2.1 dL_law_849 rfl (lv_at hl 1 rfl) ?_
    refine lw_arg (j := 1) C hX hbl hT.2.2 rfl (by omega) hL hl rfl rfl dL_law_850 dL_law_851 dL_law_852 dL_law_853 dL_law_854 ?_
    refine lw_arg (j := 2) C hX hbl hT.2.2 rfl (by omega) hL hl rfl rfl dL_law_855 dL_law_856 dL_law_857 dL_law_858 dL_law_859 ?_
    refine lw_arg (j := 3) C hX hbl hT.2.2 rfl (by omega) hL hl rfl rfl dL_law_860 dL_law_861 dL_law_862 dL_law_863 dL_law_864 ?_
    refine lw_arg (j := 4) C hX hbl hT.2.2 rfl (by omega) hL hl rfl rfl dL_law_865 dL_law_866 dL_law_867 dL_law_868 dL_law_869 ?_
    refine lw_arg (j := 5) C hX hbl hT.2.2 rfl (by omega) hL hl rfl rfl dL_law_870 dL_law_871 dL_law_872 dL_law_873 dL_law_874 ?_
    refine lv_if_eq (tgt := 882) C.1 C.2.1 dL_law_875 (by decide) (fun _ => ?_) (fun q => absurd hz q)
    refine lv_iconst (v := 0) C.1 C.2.1 dL_law_882 (by decide) ?_
    obtain ⟨r, MC1, MM1, hc1, hm1, hR1⟩ := (hp0 (xs (k + 1)) (xs (k + 2)) (xs (k + 3)) (xs (k + 4))) MC MM hR
    refine lw_clC hF hT (lw_runC (np := 5) (rest := []) C hF hT (c_X8_drawn l GC (xs (k + 1)) (xs (k + 2)) (xs (k + 3)) (xs (k + 4)) 0 MC r MC1 hc1) cl_L_107 rfl hl.1 rfl (Nat.le_of_ble_eq_true rfl) ⟨Nat.le_of_ble_eq_true rfl, Nat.le_of_ble_eq_true rfl⟩ dL_law_883) (fun H locs hT => ?_)
    refine lv_aload_n C.1 C.2.1 dL_law_886 rfl (lv_at hl 2 rfl) ?_
    refine lw_arg (j := 1) C hX hbl hT.2.2 rfl (by omega) hL hl rfl rfl dL_law_887 dL_law_888 dL_law_889 dL_law_890 dL_law_891 ?_
    refine lw_arg (j := 2) C hX hbl hT.2.2 rfl (by omega) hL hl rfl rfl dL_law_892 dL_law_893 dL_law_894 dL_law_895 dL_law_896 ?_
    refine lw_arg (j := 3) C hX hbl hT.2.2 rfl (by omega) hL hl rfl rfl dL_law_897 dL_law_898 dL_law_899 dL_law_900 dL_law_901 ?_
    refine lw_arg (j := 4) C hX hbl hT.2.2 rfl (by omega) hL hl rfl rfl dL_law_902 dL_law_903 dL_law_904 dL_law_905 dL_law_906 ?_
    refine lw_arg (j := 5) C hX hbl hT.2.2 rfl (by omega) hL hl rfl rfl dL_law_907 dL_law_908 dL_law_909 dL_law_910 dL_law_911 ?_
    refine lv_if_eq (tgt := 919) C.1 C.2.1 dL_law_912 (by decide) (fun _ => ?_) (fun q => absurd hz q)
    refine lv_iconst (v := 0) C.1 C.2.1 dL_law_919 (by decide) ?_
    refine lw_clM hF hT (lw_runM (np := 5) (rest := [.long r]) C hF hT (c_X9_drawn l GM (xs (k + 1)) (xs (k + 2)) (xs (k + 3)) (xs (k + 4)) 0 MM r MM1 hm1) cl_L_111 rfl hl.1 rfl (Nat.le_of_ble_eq_true rfl) ⟨Nat.le_of_ble_eq_true rfl, Nat.le_of_ble_eq_true rfl⟩ dL_law_920) (fun H locs hT => ?_)
    refine W.lcmp C.1 C.2.1 dL_law_923 ?_
    rw [lg_cmp_self]
    exact lv_if_eq (tgt := 1111) C.1 C.2.1 dL_law_924 (by decide) (fun _ => hn _ _ _ _ _ hR1 hT hl) (fun q => absurd rfl q)
  · refine lv_aload_n C.1 C.2.1 dL_law_849 rfl (lv_at hl 1 rfl) ?_
    refine lw_arg (j := 1) C hX hbl hT.2.2 rfl (by omega) hL hl rfl rfl dL_law_850 dL_law_851 dL_law_852 dL_law_853 dL_law_854 ?_
    refine lw_arg (j := 2) C hX hbl hT.2.2 rfl (by omega) hL hl rfl rfl dL_law_855 dL_law_856 dL_law_857 dL_law_858 dL_law_859 ?_
    refine lw_arg (j := 3) C hX hbl hT.2.2 rfl (by omega) hL hl rfl rfl dL_law_860 dL_law_861 dL_law_862 dL_law_863 dL_law_864 ?_
    refine lw_arg (j := 4) C hX hbl hT.2.2 rfl (by omega) hL hl rfl rfl dL_law_865 dL_law_866 dL_law_867 dL_law_868 dL_law_869 ?_
    refine lw_arg (j := 5) C hX hbl hT.2.2 rfl (by omega) hL hl rfl rfl dL_law_870 dL_law_871 dL_law_872 dL_law_873 dL_law_874 ?_
    refine lv_if_eq (tgt := 882) C.1 C.2.1 dL_law_875 (by decide) (fun q => absurd q hz) (fun _ => ?_)
    refine lv_iconst (v := 1) C.1 C.2.1 dL_law_878 (by decide) ?_
    refine lv_goto (tgt := 883) C.1 C.2.1 dL_law_879 (by decide) ?_
    obtain ⟨r, MC1, MM1, hc1, hm1, hR1⟩ := (hp1 (xs (k + 1)) (xs (k + 2)) (xs (k + 3)) (xs (k + 4))) MC MM hR
    refine lw_clC hF hT (lw_runC (np := 5) (rest := []) C hF hT (c_X8_drawn l GC (xs (k + 1)) (xs (k + 2)) (xs (k + 3)) (xs (k + 4)) 1 MC r MC1 hc1) cl_L_107 rfl hl.1 rfl (Nat.le_of_ble_eq_true rfl) ⟨Nat.le_of_ble_eq_true rfl, Nat.le_of_ble_eq_true rfl⟩ dL_law_883) (fun H locs hT => ?_)
    refine lv_aload_n C.1 C.2.1 dL_law_886 rfl (lv_at hl 2 rfl) ?_
    refine lw_arg (j := 1) C hX hbl hT.2.2 rfl (by omega) hL hl rfl rfl dL_law_887 dL_law_888 dL_law_889 dL_law_890 dL_law_891 ?_
    refine lw_arg (j := 2) C hX hbl hT.2.2 rfl (by omega) hL hl rfl rfl dL_law_892 dL_law_893 dL_law_894 dL_law_895 dL_law_896 ?_
    refine lw_arg (j := 3) C hX hbl hT.2.2 rfl (by omega) hL hl rfl rfl dL_law_897 dL_law_898 dL_law_899 dL_law_900 dL_law_901 ?_
    refine lw_arg (j := 4) C hX hbl hT.2.2 rfl (by omega) hL hl rfl rfl dL_law_902 dL_law_903 dL_law_904 dL_law_905 dL_law_906 ?_
    refine lw_arg (j := 5) C hX hbl hT.2.2 rfl (by omega) hL hl rfl rfl dL_law_907 dL_law_908 dL_law_909 dL_law_910 dL_law_911 ?_
    refine lv_if_eq (tgt := 919) C.1 C.2.1 dL_law_912 (by decide) (fun q => absurd q hz) (fun _ => ?_)
    refine lv_iconst (v := 1) C.1 C.2.1 dL_law_915 (by decide) ?_
    refine lv_goto (tgt := 920) C.1 C.2.1 dL_law_916 (by decide) ?_
    refine lw_clM hF hT (lw_runM (np := 5) (rest := [.long r]) C hF hT (c_X9_drawn l GM (xs (k + 1)) (xs (k + 2)) (xs (k + 3)) (xs (k + 4)) 1 MM r MM1 hm1) cl_L_111 rfl hl.1 rfl (Nat.le_of_ble_eq_true rfl) ⟨Nat.le_of_ble_eq_true rfl, Nat.le_of_ble_eq_true rfl⟩ dL_law_920) (fun H locs hT => ?_)
    refine W.lcmp C.1 C.2.1 dL_law_923 ?_
    rw [lg_cmp_self]
    exact lv_if_eq (tgt := 1111) C.1 C.2.1 dL_law_924 (by decide) (fun _ => hn _ _ _ _ _ hR1 hT hl) (fun q => absurd rfl q)
set_option maxHeartbeats 4000000 in
set_option maxRecDepth 100000 in
theorem lc_goesFrom {p : Program} {l : Launch} {e : Env} {s : State} {m : MethodId} {args : Array Value} {below : List Frame} {meth : Method} {c : Code} {H : Heap} {locs : List Loc} {Q : State → Prop} {ls : Array Slot} {GC GM : fz_G} {MC MM : fz_M} {b L k : Nat} {xs : Nat → Int32} {Rel : fz_M → fz_M → Prop} (C : CallFix p m c code 4 s args wsL_law RL) (hF : lw_F GC GM s) (hX : va_X b L xs s s.heap) (hbl : b < s.heap.size) (hL : L ≤ 3072) (hk : k + 5 < L) (hp : ∀ (a0 : Int32), fz_pW Rel (f_X8_goesFrom a0) (f_X9_goesFrom a0)) (hR : Rel MC MM) (hT : lw_T GC GM s MC MM H locs) (hl : lv_has ls 4 [(0, .ref b), (1, .ref (GC.1 0)), (2, .ref (GM.1 0)), (3, .int (nI k))]) (hn : ∀ (MC MM : fz_M) (H : Heap) (locs : List Loc) (ls : Array Slot), Rel MC MM → lw_T GC GM s MC MM H locs → lv_has ls 4 [(0, .ref b), (1, .ref (GC.1 0)), (2, .ref (GM.1 0)), (3, .int (nI k))] → W p l e room_1 s m args below meth c H locs 600000 7302250 Q (F0 m 1111 ls [])) : W p l e room_1 s m args below meth c H locs 600000 7302250 Q (F0 m 929 ls []) := by
  refine lv_aload_n C.1 C.2.1 dL_law_929 rfl (lv_at hl 1 rfl) ?_
  refine lw_arg (j := 1) C hX hbl hT.2.2 rfl (by omega) hL hl rfl rfl dL_law_930 dL_law_931 dL_law_932 dL_law_933 dL_law_934 ?_
  obtain ⟨r, MC1, MM1, hc1, hm1, hR1⟩ := (hp (xs (k + 1))) MC MM hR
  refine lw_ciC hF hT (lw_runC (np := 1) (rest := []) C hF hT (c_X8_goesFrom l GC (xs (k + 1)) MC r MC1 hc1) cl_L_112 rfl hl.1 rfl (Nat.le_of_ble_eq_true rfl) ⟨Nat.le_of_ble_eq_true rfl, Nat.le_of_ble_eq_true rfl⟩ dL_law_935) (fun H locs hT => ?_)
  refine lv_aload_n C.1 C.2.1 dL_law_938 rfl (lv_at hl 2 rfl) ?_
  refine lw_arg (j := 1) C hX hbl hT.2.2 rfl (by omega) hL hl rfl rfl dL_law_939 dL_law_940 dL_law_941 dL_law_942 dL_law_943 ?_
  refine lw_ciM hF hT (lw_runM (np := 1) (rest := [.int r]) C hF hT (c_X9_goesFrom l GM (xs (k + 1)) MM r MM1 hm1) cl_L_115 rfl hl.1 rfl (Nat.le_of_ble_eq_true rfl) ⟨Nat.le_of_ble_eq_true rfl, Nat.le_of_ble_eq_true rfl⟩ dL_law_944) (fun H locs hT => ?_)
  exact lv_icmp_eq (tgt := 1111) C.1 C.2.1 dL_law_947 (by decide) (fun _ => hn _ _ _ _ _ hR1 hT hl) (fun q => absurd rfl q)
set_option maxHeartbeats 4000000 in
set_option maxRecDepth 100000 in
theorem lc_mark {p : Program} {l : Launch} {e : Env} {s : State} {m : MethodId} {args : Array Value} {below : List Frame} {meth : Method} {c : Code} {H : Heap} {locs : List Loc} {Q : State → Prop} {ls : Array Slot} {GC GM : fz_G} {MC MM : fz_M} {b L k : Nat} {xs : Nat → Int32} {Rel : fz_M → fz_M → Prop} (C : CallFix p m c code 4 s args wsL_law RL) (hF : lw_F GC GM s) (hX : va_X b L xs s s.heap) (hbl : b < s.heap.size) (hL : L ≤ 3072) (hk : k + 5 < L) (hp : ∀ (a0 : Int32) (a1 : Int32), fz_pW Rel (f_X8_mark a0 a1) (f_X9_mark a0 a1)) (hR : Rel MC MM) (hT : lw_T GC GM s MC MM H locs) (hl : lv_has ls 4 [(0, .ref b), (1, .ref (GC.1 0)), (2, .ref (GM.1 0)), (3, .int (nI k))]) (hn : ∀ (MC MM : fz_M) (H : Heap) (locs : List Loc) (ls : Array Slot), Rel MC MM → lw_T GC GM s MC MM H locs → lv_has ls 4 [(0, .ref b), (1, .ref (GC.1 0)), (2, .ref (GM.1 0)), (3, .int (nI k))] → W p l e room_1 s m args below meth c H locs 600000 7302250 Q (F0 m 1111 ls [])) : W p l e room_1 s m args below meth c H locs 600000 7302250 Q (F0 m 952 ls []) := by
  refine lv_aload_n C.1 C.2.1 dL_law_952 rfl (lv_at hl 1 rfl) ?_
  refine lw_arg (j := 1) C hX hbl hT.2.2 rfl (by omega) hL hl rfl rfl dL_law_953 dL_law_954 dL_law_955 dL_law_956 dL_law_957 ?_
  refine lw_arg (j := 2) C hX hbl hT.2.2 rfl (by omega) hL hl rfl rfl dL_law_958 dL_law_959 dL_law_960 dL_law_961 dL_law_962 ?_
  obtain ⟨r, MC1, MM1, hc1, hm1, hR1⟩ := (hp (xs (k + 1)) (xs (k + 2))) MC MM hR
  refine lw_ciC hF hT (lw_runC (np := 2) (rest := []) C hF hT (c_X8_mark l GC (xs (k + 1)) (xs (k + 2)) MC r MC1 hc1) cl_L_116 rfl hl.1 rfl (Nat.le_of_ble_eq_true rfl) ⟨Nat.le_of_ble_eq_true rfl, Nat.le_of_ble_eq_true rfl⟩ dL_law_963) (fun H locs hT => ?_)
  refine lv_aload_n C.1 C.2.1 dL_law_966 rfl (lv_at hl 2 rfl) ?_
  refine lw_arg (j := 1) C hX hbl hT.2.2 rfl (by omega) hL hl rfl rfl dL_law_967 dL_law_968 dL_law_969 dL_law_970 dL_law_971 ?_
  refine lw_arg (j := 2) C hX hbl hT.2.2 rfl (by omega) hL hl rfl rfl dL_law_972 dL_law_973 dL_law_974 dL_law_975 dL_law_976 ?_
  refine lw_ciM hF hT (lw_runM (np := 2) (rest := [.int r]) C hF hT (c_X9_mark l GM (xs (k + 1)) (xs (k + 2)) MM r MM1 hm1) cl_L_119 rfl hl.1 rfl (Nat.le_of_ble_eq_true rfl) ⟨Nat.le_of_ble_eq_true rfl, Nat.le_of_ble_eq_true rfl⟩ dL_law_977) (fun H locs hT => ?_)
  exact lv_icmp_eq (tgt := 1111) C.1 C.2.1 dL_law_980 (by decide) (fun _ => hn _ _ _ _ _ hR1 hT hl) (fun q => absurd rfl q)
set_option maxHeartbeats 4000000 in
set_option maxRecDepth 100000 in
theorem lc_unmark {p : Program} {l : Launch} {e : Env} {s : State} {m : MethodId} {args : Array Value} {below : List Frame} {meth : Method} {c : Code} {H : Heap} {locs : List Loc} {Q : State → Prop} {ls : Array Slot} {GC GM : fz_G} {MC MM : fz_M} {b L k : Nat} {xs : Nat → Int32} {Rel : fz_M → fz_M → Prop} (C : CallFix p m c code 4 s args wsL_law RL) (hF : lw_F GC GM s) (hX : va_X b L xs s s.heap) (hbl : b < s.heap.size) (hL : L ≤ 3072) (hk : k + 5 < L) (hp : fz_pW Rel (f_X8_unmark) (f_X9_unmark)) (hR : Rel MC MM) (hT : lw_T GC GM s MC MM H locs) (hl : lv_has ls 4 [(0, .ref b), (1, .ref (GC.1 0)), (2, .ref (GM.1 0)), (3, .int (nI k))]) (hn : ∀ (MC MM : fz_M) (H : Heap) (locs : List Loc) (ls : Array Slot), Rel MC MM → lw_T GC GM s MC MM H locs → lv_has ls 4 [(0, .ref b), (1, .ref (GC.1 0)), (2, .ref (GM.1 0)), (3, .int (nI k))] → W p l e room_1 s m args below meth c H locs 600000 7302250 Q (F0 m 1111 ls [])) : W p l e room_1 s m args below meth c H locs 600000 7302250 Q (F0 m 985 ls []) := by
  refine lv_aload_n C.1 C.2.1 dL_law_985 rfl (lv_at hl 1 rfl) ?_
  obtain ⟨r, MC1, MM1, hc1, hm1, hR1⟩ := hp MC MM hR
  refine lw_ciC hF hT (lw_runC (np := 0) (rest := []) C hF hT (c_X8_unmark l GC MC r MC1 hc1) cl_L_120 rfl hl.1 rfl (Nat.le_of_ble_eq_true rfl) ⟨Nat.le_of_ble_eq_true rfl, Nat.le_of_ble_eq_true rfl⟩ dL_law_986) (fun H locs hT => ?_)
  refine lv_aload_n C.1 C.2.1 dL_law_989 rfl (lv_at hl 2 rfl) ?_
  refine lw_ciM hF hT (lw_runM (np := 0) (rest := [.int r]) C hF hT (c_X9_unmark l GM MM r MM1 hm1) cl_L_123 rfl hl.1 rfl (Nat.le_of_ble_eq_true rfl) ⟨Nat.le_of_ble_eq_true rfl, Nat.le_of_ble_eq_true rfl⟩ dL_law_990) (fun H locs hT => ?_)
  exact lv_icmp_eq (tgt := 1111) C.1 C.2.1 dL_law_993 (by decide) (fun _ => hn _ _ _ _ _ hR1 hT hl) (fun q => absurd rfl q)
set_option maxHeartbeats 4000000 in
set_option maxRecDepth 100000 in
theorem lc_rows {p : Program} {l : Launch} {e : Env} {s : State} {m : MethodId} {args : Array Value} {below : List Frame} {meth : Method} {c : Code} {H : Heap} {locs : List Loc} {Q : State → Prop} {ls : Array Slot} {GC GM : fz_G} {MC MM : fz_M} {b L k : Nat} {xs : Nat → Int32} {Rel : fz_M → fz_M → Prop} (C : CallFix p m c code 4 s args wsL_law RL) (hF : lw_F GC GM s) (hX : va_X b L xs s s.heap) (hbl : b < s.heap.size) (hL : L ≤ 3072) (hk : k + 5 < L) (hp : ∀ (a0 : Int32) (a1 : Int32), fz_pW Rel (f_X8_rows a0 a1) (f_X9_rows a0 a1)) (hR : Rel MC MM) (hT : lw_T GC GM s MC MM H locs) (hl : lv_has ls 4 [(0, .ref b), (1, .ref (GC.1 0)), (2, .ref (GM.1 0)), (3, .int (nI k))]) (hn : ∀ (MC MM : fz_M) (H : Heap) (locs : List Loc) (ls : Array Slot), Rel MC MM → lw_T GC GM s MC MM H locs → lv_has ls 4 [(0, .ref b), (1, .ref (GC.1 0)), (2, .ref (GM.1 0)), (3, .int (nI k))] → W p l e room_1 s m args below meth c H locs 600000 7302250 Q (F0 m 1111 ls [])) : W p l e room_1 s m args below meth c H locs 600000 7302250 Q (F0 m 998 ls []) := by
  refine lv_aload_n C.1 C.2.1 dL_law_998 rfl (lv_at hl 1 rfl) ?_
  refine lw_arg (j := 1) C hX hbl hT.2.2 rfl (by omega) hL hl rfl rfl dL_law_999 dL_law_1000 dL_law_1001 dL_law_1002 dL_law_1003 ?_
  refine lw_arg (j := 2) C hX hbl hT.2.2 rfl (by omega) hL hl rfl rfl dL_law_1004 dL_law_1005 dL_law_1006 dL_law_1007 dL_law_1008 ?_
  obtain ⟨r, MC1, MM1, hc1, hm1, hR1⟩ := (hp (xs (k + 1)) (xs (k + 2))) MC MM hR
  refine lw_clC hF hT (lw_runC (np := 2) (rest := []) C hF hT (c_X8_rows l GC (xs (k + 1)) (xs (k + 2)) MC r MC1 hc1) cl_L_124 rfl hl.1 rfl (Nat.le_of_ble_eq_true rfl) ⟨Nat.le_of_ble_eq_true rfl, Nat.le_of_ble_eq_true rfl⟩ dL_law_1009) (fun H locs hT => ?_)
  refine lv_aload_n C.1 C.2.1 dL_law_1012 rfl (lv_at hl 2 rfl) ?_
  refine lw_arg (j := 1) C hX hbl hT.2.2 rfl (by omega) hL hl rfl rfl dL_law_1013 dL_law_1014 dL_law_1015 dL_law_1016 dL_law_1017 ?_
  refine lw_arg (j := 2) C hX hbl hT.2.2 rfl (by omega) hL hl rfl rfl dL_law_1018 dL_law_1019 dL_law_1020 dL_law_1021 dL_law_1022 ?_
  refine lw_clM hF hT (lw_runM (np := 2) (rest := [.long r]) C hF hT (c_X9_rows l GM (xs (k + 1)) (xs (k + 2)) MM r MM1 hm1) cl_L_128 rfl hl.1 rfl (Nat.le_of_ble_eq_true rfl) ⟨Nat.le_of_ble_eq_true rfl, Nat.le_of_ble_eq_true rfl⟩ dL_law_1023) (fun H locs hT => ?_)
  refine W.lcmp C.1 C.2.1 dL_law_1026 ?_
  rw [lg_cmp_self]
  exact lv_if_eq (tgt := 1111) C.1 C.2.1 dL_law_1027 (by decide) (fun _ => hn _ _ _ _ _ hR1 hT hl) (fun q => absurd rfl q)
set_option maxHeartbeats 4000000 in
set_option maxRecDepth 100000 in
theorem lc_ends {p : Program} {l : Launch} {e : Env} {s : State} {m : MethodId} {args : Array Value} {below : List Frame} {meth : Method} {c : Code} {H : Heap} {locs : List Loc} {Q : State → Prop} {ls : Array Slot} {GC GM : fz_G} {MC MM : fz_M} {b L k : Nat} {xs : Nat → Int32} {Rel : fz_M → fz_M → Prop} (C : CallFix p m c code 4 s args wsL_law RL) (hF : lw_F GC GM s) (hX : va_X b L xs s s.heap) (hbl : b < s.heap.size) (hL : L ≤ 3072) (hk : k + 5 < L) (hp : ∀ (a0 : Int32) (a1 : Int32), fz_pW Rel (f_X8_ends a0 a1) (f_X9_ends a0 a1)) (hR : Rel MC MM) (hT : lw_T GC GM s MC MM H locs) (hl : lv_has ls 4 [(0, .ref b), (1, .ref (GC.1 0)), (2, .ref (GM.1 0)), (3, .int (nI k))]) (hn : ∀ (MC MM : fz_M) (H : Heap) (locs : List Loc) (ls : Array Slot), Rel MC MM → lw_T GC GM s MC MM H locs → lv_has ls 4 [(0, .ref b), (1, .ref (GC.1 0)), (2, .ref (GM.1 0)), (3, .int (nI k))] → W p l e room_1 s m args below meth c H locs 600000 7302250 Q (F0 m 1111 ls [])) : W p l e room_1 s m args below meth c H locs 600000 7302250 Q (F0 m 1032 ls []) := by
  refine lv_aload_n C.1 C.2.1 dL_law_1032 rfl (lv_at hl 1 rfl) ?_
  refine lw_arg (j := 1) C hX hbl hT.2.2 rfl (by omega) hL hl rfl rfl dL_law_1033 dL_law_1034 dL_law_1035 dL_law_1036 dL_law_1037 ?_
  refine lw_arg (j := 2) C hX hbl hT.2.2 rfl (by omega) hL hl rfl rfl dL_law_1038 dL_law_1039 dL_law_1040 dL_law_1041 dL_law_1042 ?_
  obtain ⟨r, MC1, MM1, hc1, hm1, hR1⟩ := (hp (xs (k + 1)) (xs (k + 2))) MC MM hR
  refine lw_ciC hF hT (lw_runC (np := 2) (rest := []) C hF hT (c_X8_ends l GC (xs (k + 1)) (xs (k + 2)) MC r MC1 hc1) cl_L_129 rfl hl.1 rfl (Nat.le_of_ble_eq_true rfl) ⟨Nat.le_of_ble_eq_true rfl, Nat.le_of_ble_eq_true rfl⟩ dL_law_1043) (fun H locs hT => ?_)
  refine lv_aload_n C.1 C.2.1 dL_law_1046 rfl (lv_at hl 2 rfl) ?_
  refine lw_arg (j := 1) C hX hbl hT.2.2 rfl (by omega) hL hl rfl rfl dL_law_1047 dL_law_1048 dL_law_1049 dL_law_1050 dL_law_1051 ?_
  refine lw_arg (j := 2) C hX hbl hT.2.2 rfl (by omega) hL hl rfl rfl dL_law_1052 dL_law_1053 dL_law_1054 dL_law_1055 dL_law_1056 ?_
  refine lw_ciM hF hT (lw_runM (np := 2) (rest := [.int r]) C hF hT (c_X9_ends l GM (xs (k + 1)) (xs (k + 2)) MM r MM1 hm1) cl_L_132 rfl hl.1 rfl (Nat.le_of_ble_eq_true rfl) ⟨Nat.le_of_ble_eq_true rfl, Nat.le_of_ble_eq_true rfl⟩ dL_law_1057) (fun H locs hT => ?_)
  exact lv_icmp_eq (tgt := 1111) C.1 C.2.1 dL_law_1060 (by decide) (fun _ => hn _ _ _ _ _ hR1 hT hl) (fun q => absurd rfl q)
set_option maxHeartbeats 4000000 in
set_option maxRecDepth 100000 in
theorem lc_keep {p : Program} {l : Launch} {e : Env} {s : State} {m : MethodId} {args : Array Value} {below : List Frame} {meth : Method} {c : Code} {H : Heap} {locs : List Loc} {Q : State → Prop} {ls : Array Slot} {GC GM : fz_G} {MC MM : fz_M} {b L k : Nat} {xs : Nat → Int32} {Rel : fz_M → fz_M → Prop} (C : CallFix p m c code 4 s args wsL_law RL) (hF : lw_F GC GM s) (hX : va_X b L xs s s.heap) (hbl : b < s.heap.size) (hL : L ≤ 3072) (hk : k + 5 < L) (hp : ∀ (a0 : Int32), fz_pW Rel (f_X8_keep a0) (f_X9_keep a0)) (hR : Rel MC MM) (hT : lw_T GC GM s MC MM H locs) (hl : lv_has ls 4 [(0, .ref b), (1, .ref (GC.1 0)), (2, .ref (GM.1 0)), (3, .int (nI k))]) (hn : ∀ (MC MM : fz_M) (H : Heap) (locs : List Loc) (ls : Array Slot), Rel MC MM → lw_T GC GM s MC MM H locs → lv_has ls 4 [(0, .ref b), (1, .ref (GC.1 0)), (2, .ref (GM.1 0)), (3, .int (nI k))] → W p l e room_1 s m args below meth c H locs 600000 7302250 Q (F0 m 1111 ls [])) : W p l e room_1 s m args below meth c H locs 600000 7302250 Q (F0 m 1065 ls []) := by
  refine lv_aload_n C.1 C.2.1 dL_law_1065 rfl (lv_at hl 1 rfl) ?_
  refine lw_arg (j := 1) C hX hbl hT.2.2 rfl (by omega) hL hl rfl rfl dL_law_1066 dL_law_1067 dL_law_1068 dL_law_1069 dL_law_1070 ?_
  obtain ⟨r, MC1, MM1, hc1, hm1, hR1⟩ := (hp (xs (k + 1))) MC MM hR
  refine lw_ciC hF hT (lw_runC (np := 1) (rest := []) C hF hT (c_X8_keep l GC (xs (k + 1)) MC r MC1 hc1) cl_L_133 rfl hl.1 rfl (Nat.le_of_ble_eq_true rfl) ⟨Nat.le_of_ble_eq_true rfl, Nat.le_of_ble_eq_true rfl⟩ dL_law_1071) (fun H locs hT => ?_)
  refine lv_aload_n C.1 C.2.1 dL_law_1074 rfl (lv_at hl 2 rfl) ?_
  refine lw_arg (j := 1) C hX hbl hT.2.2 rfl (by omega) hL hl rfl rfl dL_law_1075 dL_law_1076 dL_law_1077 dL_law_1078 dL_law_1079 ?_
  refine lw_ciM hF hT (lw_runM (np := 1) (rest := [.int r]) C hF hT (c_X9_keep l GM (xs (k + 1)) MM r MM1 hm1) cl_L_136 rfl hl.1 rfl (Nat.le_of_ble_eq_true rfl) ⟨Nat.le_of_ble_eq_true rfl, Nat.le_of_ble_eq_true rfl⟩ dL_law_1080) (fun H locs hT => ?_)
  exact lv_icmp_eq (tgt := 1111) C.1 C.2.1 dL_law_1083 (by decide) (fun _ => hn _ _ _ _ _ hR1 hT hl) (fun q => absurd rfl q)
set_option maxHeartbeats 4000000 in
set_option maxRecDepth 100000 in
theorem lc_again {p : Program} {l : Launch} {e : Env} {s : State} {m : MethodId} {args : Array Value} {below : List Frame} {meth : Method} {c : Code} {H : Heap} {locs : List Loc} {Q : State → Prop} {ls : Array Slot} {GC GM : fz_G} {MC MM : fz_M} {b L k : Nat} {xs : Nat → Int32} {Rel : fz_M → fz_M → Prop} (C : CallFix p m c code 4 s args wsL_law RL) (hF : lw_F GC GM s) (hX : va_X b L xs s s.heap) (hbl : b < s.heap.size) (hL : L ≤ 3072) (hk : k + 5 < L) (hp : ∀ (a0 : Int32), fz_pW Rel (f_X8_again a0) (f_X9_again a0)) (hR : Rel MC MM) (hT : lw_T GC GM s MC MM H locs) (hl : lv_has ls 4 [(0, .ref b), (1, .ref (GC.1 0)), (2, .ref (GM.1 0)), (3, .int (nI k))]) (hn : ∀ (MC MM : fz_M) (H : Heap) (locs : List Loc) (ls : Array Slot), Rel MC MM → lw_T GC GM s MC MM H locs → lv_has ls 4 [(0, .ref b), (1, .ref (GC.1 0)), (2, .ref (GM.1 0)), (3, .int (nI k))] → W p l e room_1 s m args below meth c H locs 600000 7302250 Q (F0 m 1111 ls [])) : W p l e room_1 s m args below meth c H locs 600000 7302250 Q (F0 m 1088 ls []) := by
  refine lv_aload_n C.1 C.2.1 dL_law_1088 rfl (lv_at hl 1 rfl) ?_
  refine lw_arg (j := 1) C hX hbl hT.2.2 rfl (by omega) hL hl rfl rfl dL_law_1089 dL_law_1090 dL_law_1091 dL_law_1092 dL_law_1093 ?_
  obtain ⟨r, MC1, MM1, hc1, hm1, hR1⟩ := (hp (xs (k + 1))) MC MM hR
  refine lw_ciC hF hT (lw_runC (np := 1) (rest := []) C hF hT (c_X8_again l GC (xs (k + 1)) MC r MC1 hc1) cl_L_137 rfl hl.1 rfl (Nat.le_of_ble_eq_true rfl) ⟨Nat.le_of_ble_eq_true rfl, Nat.le_of_ble_eq_true rfl⟩ dL_law_1094) (fun H locs hT => ?_)
  refine lv_aload_n C.1 C.2.1 dL_law_1097 rfl (lv_at hl 2 rfl) ?_
  refine lw_arg (j := 1) C hX hbl hT.2.2 rfl (by omega) hL hl rfl rfl dL_law_1098 dL_law_1099 dL_law_1100 dL_law_1101 dL_law_1102 ?_
  refine lw_ciM hF hT (lw_runM (np := 1) (rest := [.int r]) C hF hT (c_X9_again l GM (xs (k + 1)) MM r MM1 hm1) cl_L_140 rfl hl.1 rfl (Nat.le_of_ble_eq_true rfl) ⟨Nat.le_of_ble_eq_true rfl, Nat.le_of_ble_eq_true rfl⟩ dL_law_1103) (fun H locs hT => ?_)
  exact lv_icmp_eq (tgt := 1111) C.1 C.2.1 dL_law_1106 (by decide) (fun _ => hn _ _ _ _ _ hR1 hT hl) (fun q => absurd rfl q)
/-- WHAT THE TWO PROGRAMS OWE EACH OTHER -/
def fz_Pure (Rel : fz_M → fz_M → Prop) : Prop :=
  (∀ (a0 : Int32) (a1 : Int64), fz_pW Rel (f_X8_write a0 a1) (f_X9_write a0 a1)) ∧
  (fz_pW Rel (f_X8_wipe) (f_X9_wipe)) ∧
  (fz_pW Rel (f_X8_fault) (f_X9_fault)) ∧
  (fz_pW Rel (f_X8_town) (f_X9_town)) ∧
  (∀ (a0 : Int32), fz_pP Rel (f_X8_about a0) (f_X9_about a0)) ∧
  (∀ (a0 : Int32) (a1 : Int32), fz_pP Rel (f_X8_house a0 a1) (f_X9_house a0 a1)) ∧
  (∀ (a0 : Int32) (a1 : Int32), fz_pP Rel (f_X8_stream a0 a1) (f_X9_stream a0 a1)) ∧
  (∀ (a0 : Int32) (a1 : Int32), fz_pP Rel (f_X8_piece a0 a1) (f_X9_piece a0 a1)) ∧
  (∀ (a0 : Int32) (a1 : Int32), fz_pP Rel (f_X8_owner a0 a1) (f_X9_owner a0 a1)) ∧
  (∀ (a0 : Int32) (a1 : Int32), fz_pW Rel (f_X8_tie a0 a1) (f_X9_tie a0 a1)) ∧
  (∀ (a0 : Int32) (a1 : Int32), fz_pW Rel (f_X8_carry a0 a1) (f_X9_carry a0 a1)) ∧
  (∀ (a0 : Int32), fz_pW Rel (f_X8_shut a0 0) (f_X9_shut a0 0)) ∧
  (∀ (a0 : Int32), fz_pW Rel (f_X8_shut a0 1) (f_X9_shut a0 1)) ∧
  (∀ (a0 : Int32) (a1 : Int32), fz_pP Rel (f_X8_deep a0 a1) (f_X9_deep a0 a1)) ∧
  (∀ (a0 : Int32), fz_pW Rel (f_X8_hour a0) (f_X9_hour a0)) ∧
  (∀ (a0 : Int32), fz_pW Rel (f_X8_jams a0) (f_X9_jams a0)) ∧
  (fz_pW Rel (f_X8_spring) (f_X9_spring)) ∧
  (fz_pW Rel (f_X8_undo) (f_X9_undo)) ∧
  (∀ (a0 : Int32) (a1 : Int32) (a2 : Int32), fz_pW Rel (f_X8_after a0 a1 a2) (f_X9_after a0 a1 a2)) ∧
  (∀ (a0 : Int32) (a1 : Int32) (a2 : Int32), fz_pW Rel (f_X8_ties a0 a1 a2 0) (f_X9_ties a0 a1 a2 0)) ∧
  (∀ (a0 : Int32) (a1 : Int32) (a2 : Int32), fz_pW Rel (f_X8_ties a0 a1 a2 1) (f_X9_ties a0 a1 a2 1)) ∧
  (∀ (a0 : Int32) (a1 : Int32) (a2 : Int32) (a3 : Int32), fz_pW Rel (f_X8_dowry a0 a1 a2 a3) (f_X9_dowry a0 a1 a2 a3)) ∧
  (∀ (a0 : Int32) (a1 : Int32) (a2 : Int32), fz_pW Rel (f_X8_toShut a0 a1 a2) (f_X9_toShut a0 a1 a2)) ∧
  (∀ (a0 : Int32) (a1 : Int32) (a2 : Int32) (a3 : Int32), fz_pW Rel (f_X8_drawn a0 a1 a2 a3 0) (f_X9_drawn a0 a1 a2 a3 0)) ∧
  (∀ (a0 : Int32) (a1 : Int32) (a2 : Int32) (a3 : Int32), fz_pW Rel (f_X8_drawn a0 a1 a2 a3 1) (f_X9_drawn a0 a1 a2 a3 1)) ∧
  (∀ (a0 : Int32), fz_pW Rel (f_X8_goesFrom a0) (f_X9_goesFrom a0)) ∧
  (∀ (a0 : Int32) (a1 : Int32), fz_pW Rel (f_X8_mark a0 a1) (f_X9_mark a0 a1)) ∧
  (fz_pW Rel (f_X8_unmark) (f_X9_unmark)) ∧
  (∀ (a0 : Int32) (a1 : Int32), fz_pW Rel (f_X8_rows a0 a1) (f_X9_rows a0 a1)) ∧
  (∀ (a0 : Int32) (a1 : Int32), fz_pW Rel (f_X8_ends a0 a1) (f_X9_ends a0 a1)) ∧
  (∀ (a0 : Int32), fz_pW Rel (f_X8_keep a0) (f_X9_keep a0)) ∧
  (∀ (a0 : Int32), fz_pW Rel (f_X8_again a0) (f_X9_again a0))
theorem lw_sub6 {L : Nat} (hL : L ≤ 3072) : (Int32.ofNat L - 6).toInt = (L : Int) - 6 := by
  have h1 : (Int32.ofNat L).toInt = (L : Int) := nI_toInt (by omega)
  rw [Int32.toInt_sub, h1]
  show ((L : Int) - 6).bmod (2 ^ 32) = _
  rw [Int.bmod_eq_of_le (by omega) (by omega)]
theorem lw_gt {L k : Nat} (hL : L ≤ 3072) (hk : k ≤ 3078) (h : L < k + 6) : Int32.ofNat L - 6 < nI k := by
  rw [Int32.lt_iff_toInt_lt, lw_sub6 hL, nI_toInt (by omega)]; omega
theorem lw_ngt {L k : Nat} (h : ¬ Int32.ofNat L - 6 < nI k) (hk : k ≤ 3078) (hL : L ≤ 3072) : k + 5 < L := by
  rw [Int32.lt_iff_toInt_lt, lw_sub6 hL, nI_toInt (by omega)] at h; omega
set_option maxHeartbeats 4000000 in
set_option maxRecDepth 100000 in
theorem law_loop {p : Program} {l : Launch} {e : Env} {s : State} {m : MethodId} {below : List Frame} {meth : Method} {c : Code} {GC GM : fz_G} {b L : Nat} {xs : Nat → Int32} {Rel : fz_M → fz_M → Prop} (hp : fz_Pure Rel) (C : CallFix p m c code 4 s #[Value.ref b] wsL_law RL) (hr : meth.sig.returnType = ret) (hlk : meth.locks = false) (hF : lw_F GC GM s) (hX : va_X b L xs s s.heap) (hbl : b < s.heap.size) (hL : L ≤ 3072) : ∀ (n k : Nat) (MC MM : fz_M) (H : Heap) (locs : List Loc) (ls : Array Slot), k ≤ 3078 → L < k + n → Rel MC MM → lw_T GC GM s MC MM H locs → lv_has ls 4 [(0, .ref b), (1, .ref (GC.1 0)), (2, .ref (GM.1 0)), (3, .int (nI k))] → W p l e room_1 s m #[Value.ref b] below meth c H locs 600000 7302250 (lw_Z below #[Value.ref b] s) (F0 m 18 ls []) := by
  obtain ⟨h0, h1, h2, h3, h4, h5, h6, h7, h8, h9, h10, h11, h12, h13, h14, h15, h16, h17, h18, h19, h20, h21, h22, h23, h24, h25, h26, h27, h28, h29, h30, h31⟩ := hp
  intro n
  induction n with
  | zero =>
    intro k MC MM H locs ls hk hn hR hT hl
    have hbA : ¬ (fun q : Nat => s.heap.size ≤ q) b := Nat.not_le.mpr hbl
    refine lv_iload_n C.1 C.2.1 dL_law_18 rfl (lv_at hl 3 rfl) ?_
    refine lv_aload_n C.1 C.2.1 dL_law_19 rfl (lv_at hl 0 rfl) ?_
    refine va_slen C.1 C.2.1 hX hbl hbA hT.2.2 dL_law_20 ?_
    refine lv_bipush (v := 6) C.1 C.2.1 dL_law_21 (by decide) ?_
    refine lv_isub C.1 C.2.1 dL_law_23 ?_
    refine lv_icmp_gt (tgt := 1117) C.1 C.2.1 dL_law_24 (by decide) (fun _ => ?_) (fun q => absurd (lw_gt (by omega) hk (by omega)) q)
    refine lv_iconst (v := 1) C.1 C.2.1 dL_law_1117 (by decide) ?_
    refine va_forget (fun q hq => hT.2.2.2.2 q hq) ?_
    exact lw_ret C.1 C.2.1 hr hlk dL_law_1118
  | succ n ih =>
    intro k MC MM H locs ls hk hn hR hT hl
    have hbA : ¬ (fun q : Nat => s.heap.size ≤ q) b := Nat.not_le.mpr hbl
    refine lv_iload_n C.1 C.2.1 dL_law_18 rfl (lv_at hl 3 rfl) ?_
    refine lv_aload_n C.1 C.2.1 dL_law_19 rfl (lv_at hl 0 rfl) ?_
    refine va_slen C.1 C.2.1 hX hbl hbA hT.2.2 dL_law_20 ?_
    refine lv_bipush (v := 6) C.1 C.2.1 dL_law_21 (by decide) ?_
    refine lv_isub C.1 C.2.1 dL_law_23 ?_
    refine lv_icmp_gt (tgt := 1117) C.1 C.2.1 dL_law_24 (by decide) (fun _ => ?_) (fun hgt => ?_)
    · refine lv_iconst (v := 1) C.1 C.2.1 dL_law_1117 (by decide) ?_
      refine va_forget (fun q hq => hT.2.2.2.2 q hq) ?_
      exact lw_ret C.1 C.2.1 hr hlk dL_law_1118
    · have hk5 : k + 5 < L := lw_ngt hgt hk hL
      have hnext : ∀ (MC MM : fz_M) (H : Heap) (locs : List Loc) (ls : Array Slot), Rel MC MM → lw_T GC GM s MC MM H locs → lv_has ls 4 [(0, .ref b), (1, .ref (GC.1 0)), (2, .ref (GM.1 0)), (3, .int (nI k))] → W p l e room_1 s m #[Value.ref b] below meth c H locs 600000 7302250 (lw_Z below #[Value.ref b] s) (F0 m 1111 ls []) := by
        intro MC MM H locs ls hR hT hl
        refine lv_iinc (v := nI (k + 6)) (lv' := [(3, .int (nI (k + 6))), (0, .ref b), (1, .ref (GC.1 0)), (2, .ref (GM.1 0))]) C.1 C.2.1 dL_law_1111 hl (k := 3) rfl (nI_add k 6) (by decide) rfl (fun ls hl => ?_)
        refine lv_goto (tgt := 18) C.1 C.2.1 dL_law_1114 (by decide) ?_
        exact ih (k + 6) MC MM H locs ls (by omega) (by omega) hR hT (lv_sub hl [1, 2, 3, 0] rfl)
      refine lv_aload_n C.1 C.2.1 dL_law_27 rfl (lv_at hl 0 rfl) ?_
      refine lv_iload_n C.1 C.2.1 dL_law_28 rfl (lv_at hl 3 rfl) ?_
      refine va_sld C.1 C.2.1 hX hbl hbA hT.2.2 (vp_in_nI (by omega) (by omega)) dL_law_29 ?_
      refine lv_bipush (v := 31) C.1 C.2.1 dL_law_30 (by decide) ?_
      refine lv_iand C.1 C.2.1 dL_law_32 ?_
      refine lv_topi (fun z ez => ?_)
      by_cases c0 : z = 0
      · refine lv_tableIn (off := 131) (tgt := 164) C.1 C.2.1 dL_law_33 (by rw [c0]; decide) (by rw [c0]; decide) (by rw [c0]; rfl) (by decide) ?_
        exact lc_write C hF hX hbl hL hk5 h0 hR hT hl hnext
      by_cases c1 : z = 1
      · refine lv_tableIn (off := 194) (tgt := 227) C.1 C.2.1 dL_law_33 (by rw [c1]; decide) (by rw [c1]; decide) (by rw [c1]; rfl) (by decide) ?_
        exact lc_wipe C hF hX hbl hL hk5 h1 hR hT hl hnext
      by_cases c2 : z = 2
      · refine lv_tableIn (off := 207) (tgt := 240) C.1 C.2.1 dL_law_33 (by rw [c2]; decide) (by rw [c2]; decide) (by rw [c2]; rfl) (by decide) ?_
        exact lc_fault C hF hX hbl hL hk5 h2 hR hT hl hnext
      by_cases c3 : z = 3
      · refine lv_tableIn (off := 220) (tgt := 253) C.1 C.2.1 dL_law_33 (by rw [c3]; decide) (by rw [c3]; decide) (by rw [c3]; rfl) (by decide) ?_
        exact lc_town C hF hX hbl hL hk5 h3 hR hT hl hnext
      by_cases c4 : z = 4
      · refine lv_tableIn (off := 233) (tgt := 266) C.1 C.2.1 dL_law_33 (by rw [c4]; decide) (by rw [c4]; decide) (by rw [c4]; rfl) (by decide) ?_
        exact lc_about C hF hX hbl hL hk5 h4 hR hT hl hnext
      by_cases c5 : z = 5
      · refine lv_tableIn (off := 256) (tgt := 289) C.1 C.2.1 dL_law_33 (by rw [c5]; decide) (by rw [c5]; decide) (by rw [c5]; rfl) (by decide) ?_
        exact lc_house C hF hX hbl hL hk5 h5 hR hT hl hnext
      by_cases c6 : z = 6
      · refine lv_tableIn (off := 289) (tgt := 322) C.1 C.2.1 dL_law_33 (by rw [c6]; decide) (by rw [c6]; decide) (by rw [c6]; rfl) (by decide) ?_
        exact lc_stream C hF hX hbl hL hk5 h6 hR hT hl hnext
      by_cases c7 : z = 7
      · refine lv_tableIn (off := 322) (tgt := 355) C.1 C.2.1 dL_law_33 (by rw [c7]; decide) (by rw [c7]; decide) (by rw [c7]; rfl) (by decide) ?_
        exact lc_piece C hF hX hbl hL hk5 h7 hR hT hl hnext
      by_cases c8 : z = 8
      · refine lv_tableIn (off := 355) (tgt := 388) C.1 C.2.1 dL_law_33 (by rw [c8]; decide) (by rw [c8]; decide) (by rw [c8]; rfl) (by decide) ?_
        exact lc_owner C hF hX hbl hL hk5 h8 hR hT hl hnext
      by_cases c9 : z = 9
      · refine lv_tableIn (off := 388) (tgt := 421) C.1 C.2.1 dL_law_33 (by rw [c9]; decide) (by rw [c9]; decide) (by rw [c9]; rfl) (by decide) ?_
        exact lc_tie C hF hX hbl hL hk5 h9 hR hT hl hnext
      by_cases c10 : z = 10
      · refine lv_tableIn (off := 421) (tgt := 454) C.1 C.2.1 dL_law_33 (by rw [c10]; decide) (by rw [c10]; decide) (by rw [c10]; rfl) (by decide) ?_
        exact lc_carry C hF hX hbl hL hk5 h10 hR hT hl hnext
      by_cases c11 : z = 11
      · refine lv_tableIn (off := 454) (tgt := 487) C.1 C.2.1 dL_law_33 (by rw [c11]; decide) (by rw [c11]; decide) (by rw [c11]; rfl) (by decide) ?_
        exact lc_shut C hF hX hbl hL hk5 h11 h12 hR hT hl hnext
      by_cases c12 : z = 12
      · refine lv_tableIn (off := 503) (tgt := 536) C.1 C.2.1 dL_law_33 (by rw [c12]; decide) (by rw [c12]; decide) (by rw [c12]; rfl) (by decide) ?_
        exact lc_deep C hF hX hbl hL hk5 h13 hR hT hl hnext
      by_cases c13 : z = 13
      · refine lv_tableIn (off := 536) (tgt := 569) C.1 C.2.1 dL_law_33 (by rw [c13]; decide) (by rw [c13]; decide) (by rw [c13]; rfl) (by decide) ?_
        exact lc_hour C hF hX hbl hL hk5 h14 hR hT hl hnext
      by_cases c14 : z = 14
      · refine lv_tableIn (off := 559) (tgt := 592) C.1 C.2.1 dL_law_33 (by rw [c14]; decide) (by rw [c14]; decide) (by rw [c14]; rfl) (by decide) ?_
        exact lc_jams C hF hX hbl hL hk5 h15 hR hT hl hnext
      by_cases c15 : z = 15
      · refine lv_tableIn (off := 582) (tgt := 615) C.1 C.2.1 dL_law_33 (by rw [c15]; decide) (by rw [c15]; decide) (by rw [c15]; rfl) (by decide) ?_
        exact lc_spring C hF hX hbl hL hk5 h16 hR hT hl hnext
      by_cases c16 : z = 16
      · refine lv_tableIn (off := 595) (tgt := 628) C.1 C.2.1 dL_law_33 (by rw [c16]; decide) (by rw [c16]; decide) (by rw [c16]; rfl) (by decide) ?_
        exact lc_undo C hF hX hbl hL hk5 h17 hR hT hl hnext
      by_cases c17 : z = 17
      · refine lv_tableIn (off := 608) (tgt := 641) C.1 C.2.1 dL_law_33 (by rw [c17]; decide) (by rw [c17]; decide) (by rw [c17]; rfl) (by decide) ?_
        exact lc_after C hF hX hbl hL hk5 h18 hR hT hl hnext
      by_cases c18 : z = 18
      · refine lv_tableIn (off := 651) (tgt := 684) C.1 C.2.1 dL_law_33 (by rw [c18]; decide) (by rw [c18]; decide) (by rw [c18]; rfl) (by decide) ?_
        exact lc_ties C hF hX hbl hL hk5 h19 h20 hR hT hl hnext
      by_cases c19 : z = 19
      · refine lv_tableIn (off := 720) (tgt := 753) C.1 C.2.1 dL_law_33 (by rw [c19]; decide) (by rw [c19]; decide) (by rw [c19]; rfl) (by decide) ?_
        exact lc_dowry C hF hX hbl hL hk5 h21 hR hT hl hnext
      by_cases c20 : z = 20
      · refine lv_tableIn (off := 773) (tgt := 806) C.1 C.2.1 dL_law_33 (by rw [c20]; decide) (by rw [c20]; decide) (by rw [c20]; rfl) (by decide) ?_
        exact lc_toShut C hF hX hbl hL hk5 h22 hR hT hl hnext
      by_cases c21 : z = 21
      · refine lv_tableIn (off := 816) (tgt := 849) C.1 C.2.1 dL_law_33 (by rw [c21]; decide) (by rw [c21]; decide) (by rw [c21]; rfl) (by decide) ?_
        exact lc_drawn C hF hX hbl hL hk5 h23 h24 hR hT hl hnext
      by_cases c22 : z = 22
      · refine lv_tableIn (off := 896) (tgt := 929) C.1 C.2.1 dL_law_33 (by rw [c22]; decide) (by rw [c22]; decide) (by rw [c22]; rfl) (by decide) ?_
        exact lc_goesFrom C hF hX hbl hL hk5 h25 hR hT hl hnext
      by_cases c23 : z = 23
      · refine lv_tableIn (off := 919) (tgt := 952) C.1 C.2.1 dL_law_33 (by rw [c23]; decide) (by rw [c23]; decide) (by rw [c23]; rfl) (by decide) ?_
        exact lc_mark C hF hX hbl hL hk5 h26 hR hT hl hnext
      by_cases c24 : z = 24
      · refine lv_tableIn (off := 952) (tgt := 985) C.1 C.2.1 dL_law_33 (by rw [c24]; decide) (by rw [c24]; decide) (by rw [c24]; rfl) (by decide) ?_
        exact lc_unmark C hF hX hbl hL hk5 h27 hR hT hl hnext
      by_cases c25 : z = 25
      · refine lv_tableIn (off := 965) (tgt := 998) C.1 C.2.1 dL_law_33 (by rw [c25]; decide) (by rw [c25]; decide) (by rw [c25]; rfl) (by decide) ?_
        exact lc_rows C hF hX hbl hL hk5 h28 hR hT hl hnext
      by_cases c26 : z = 26
      · refine lv_tableIn (off := 999) (tgt := 1032) C.1 C.2.1 dL_law_33 (by rw [c26]; decide) (by rw [c26]; decide) (by rw [c26]; rfl) (by decide) ?_
        exact lc_ends C hF hX hbl hL hk5 h29 hR hT hl hnext
      by_cases c27 : z = 27
      · refine lv_tableIn (off := 1032) (tgt := 1065) C.1 C.2.1 dL_law_33 (by rw [c27]; decide) (by rw [c27]; decide) (by rw [c27]; rfl) (by decide) ?_
        exact lc_keep C hF hX hbl hL hk5 h30 hR hT hl hnext
      by_cases c28 : z = 28
      · refine lv_tableIn (off := 1055) (tgt := 1088) C.1 C.2.1 dL_law_33 (by rw [c28]; decide) (by rw [c28]; decide) (by rw [c28]; rfl) (by decide) ?_
        exact lc_again C hF hX hbl hL hk5 h31 hR hT hl hnext
      refine lv_tableOut (tgt := 1111) C.1 C.2.1 dL_law_33 (by have n0 := fz_ni c0 (i := 0) rfl; have n1 := fz_ni c1 (i := 1) rfl; have n2 := fz_ni c2 (i := 2) rfl; have n3 := fz_ni c3 (i := 3) rfl; have n4 := fz_ni c4 (i := 4) rfl; have n5 := fz_ni c5 (i := 5) rfl; have n6 := fz_ni c6 (i := 6) rfl; have n7 := fz_ni c7 (i := 7) rfl; have n8 := fz_ni c8 (i := 8) rfl; have n9 := fz_ni c9 (i := 9) rfl; have n10 := fz_ni c10 (i := 10) rfl; have n11 := fz_ni c11 (i := 11) rfl; have n12 := fz_ni c12 (i := 12) rfl; have n13 := fz_ni c13 (i := 13) rfl; have n14 := fz_ni c14 (i := 14) rfl; have n15 := fz_ni c15 (i := 15) rfl; have n16 := fz_ni c16 (i := 16) rfl; have n17 := fz_ni c17 (i := 17) rfl; have n18 := fz_ni c18 (i := 18) rfl; have n19 := fz_ni c19 (i := 19) rfl; have n20 := fz_ni c20 (i := 20) rfl; have n21 := fz_ni c21 (i := 21) rfl; have n22 := fz_ni c22 (i := 22) rfl; have n23 := fz_ni c23 (i := 23) rfl; have n24 := fz_ni c24 (i := 24) rfl; have n25 := fz_ni c25 (i := 25) rfl; have n26 := fz_ni c26 (i := 26) rfl; have n27 := fz_ni c27 (i := 27) rfl; have n28 := fz_ni c28 (i := 28) rfl; omega) (by decide) ?_
      exact hnext MC MM H locs ls hR hT hl

