/-! by program: words of the tables -/
set_option maxRecDepth 20000 in
theorem ln_L_7 : FLN RL 7 9 := ⟨RX8, TX8, 14, tyX8, ⟨rfl, by decide, rfl⟩, tyX8_ok, (fun j hj b hb => by
  rcases (show j = 0 ∨ j = 1 ∨ j = 2 ∨ j = 3 ∨ j = 4 ∨ j = 5 ∨ j = 6 ∨ j = 7 ∨ j = 8 ∨ j = 9 ∨ j = 10 ∨ j = 11 ∨ j = 12 ∨ j = 13 by omega) with rfl | rfl | rfl | rfl | rfl | rfl | rfl | rfl | rfl | rfl | rfl | rfl | rfl | rfl <;> (cases hb; rfl)), inTX8, ⟨List.mem_append_right _ (List.mem_of_getElem? (i := 21) (by decide +kernel)), rfl⟩, ⟨List.mem_append_right _ (List.mem_of_getElem? (i := 22) (by decide +kernel)), rfl⟩, ⟨List.mem_append_right _ (List.mem_of_getElem? (i := 1) (by decide +kernel)), rfl⟩⟩
set_option maxRecDepth 20000 in
theorem lc_L_9 : FLC RL 9 yX8_init cX8_init 1 none 0 := ⟨Or.inl ⟨List.mem_append_right _ (List.mem_of_getElem? (i := 23) (by decide +kernel)), rfl⟩, ⟨List.mem_append_right _ (List.mem_of_getElem? (i := 25) (by decide +kernel)), rfl⟩, ⟨List.mem_append_right _ (List.mem_of_getElem? (i := 1) (by decide +kernel)), rfl⟩, ⟨⟨by decide +kernel, by decide +kernel⟩, by decide +kernel⟩⟩
set_option maxRecDepth 20000 in
theorem li_X8_init : FLN0 yX8_init := ⟨by decide +kernel, List.mem_append_right _ (List.mem_of_getElem? (i := 24) (by decide +kernel)), rfl⟩
set_option maxRecDepth 20000 in
theorem ln_L_10 : FLN RL 10 10 := ⟨RX9, TX9, 27, tyX9, ⟨rfl, by decide, rfl⟩, tyX9_ok, (fun j hj b hb => by
  rcases (show j = 0 ∨ j = 1 ∨ j = 2 ∨ j = 3 ∨ j = 4 ∨ j = 5 ∨ j = 6 ∨ j = 7 ∨ j = 8 ∨ j = 9 ∨ j = 10 ∨ j = 11 ∨ j = 12 ∨ j = 13 ∨ j = 14 ∨ j = 15 ∨ j = 16 ∨ j = 17 ∨ j = 18 ∨ j = 19 ∨ j = 20 ∨ j = 21 ∨ j = 22 ∨ j = 23 ∨ j = 24 ∨ j = 25 ∨ j = 26 by omega) with rfl | rfl | rfl | rfl | rfl | rfl | rfl | rfl | rfl | rfl | rfl | rfl | rfl | rfl | rfl | rfl | rfl | rfl | rfl | rfl | rfl | rfl | rfl | rfl | rfl | rfl | rfl <;> (cases hb; rfl)), inTX9, ⟨List.mem_append_right _ (List.mem_of_getElem? (i := 671) (by decide +kernel)), rfl⟩, ⟨List.mem_append_right _ (List.mem_of_getElem? (i := 672) (by decide +kernel)), rfl⟩, ⟨List.mem_append_right _ (List.mem_of_getElem? (i := 7) (by decide +kernel)), rfl⟩⟩
set_option maxRecDepth 20000 in
theorem lc_L_12 : FLC RL 12 yX9_init cX9_init 2 none 0 := ⟨Or.inl ⟨List.mem_append_right _ (List.mem_of_getElem? (i := 673) (by decide +kernel)), rfl⟩, ⟨List.mem_append_right _ (List.mem_of_getElem? (i := 675) (by decide +kernel)), rfl⟩, ⟨List.mem_append_right _ (List.mem_of_getElem? (i := 7) (by decide +kernel)), rfl⟩, ⟨⟨by decide +kernel, by decide +kernel⟩, by decide +kernel⟩⟩
set_option maxRecDepth 20000 in
theorem li_X9_init : FLN0 yX9_init := ⟨by decide +kernel, List.mem_append_right _ (List.mem_of_getElem? (i := 674) (by decide +kernel)), rfl⟩
set_option maxRecDepth 20000 in
theorem lc_L_13 : FLC RL 13 yX8_rule cX8_rule 3 (some .int) 2 := ⟨Or.inl ⟨List.mem_append_right _ (List.mem_of_getElem? (i := 147) (by decide +kernel)), rfl⟩, ⟨List.mem_append_right _ (List.mem_of_getElem? (i := 150) (by decide +kernel)), rfl⟩, ⟨List.mem_append_right _ (List.mem_of_getElem? (i := 1) (by decide +kernel)), rfl⟩, ⟨⟨by decide +kernel, by decide +kernel⟩, by decide +kernel⟩⟩
set_option maxRecDepth 20000 in
theorem lv_X8_rule : FLV yX8_rule 9 := ⟨by decide, by decide +kernel, ⟨List.mem_append_right _ (List.mem_of_getElem? (i := 148) (by decide +kernel)), rfl⟩, ⟨List.mem_append_right _ (List.mem_of_getElem? (i := 149) (by decide +kernel)), rfl⟩⟩
set_option maxRecDepth 20000 in
theorem lc_L_17 : FLC RL 17 yX9_rule cX9_rule 3 (some .int) 2 := ⟨Or.inl ⟨List.mem_append_right _ (List.mem_of_getElem? (i := 760) (by decide +kernel)), rfl⟩, ⟨List.mem_append_right _ (List.mem_of_getElem? (i := 763) (by decide +kernel)), rfl⟩, ⟨List.mem_append_right _ (List.mem_of_getElem? (i := 7) (by decide +kernel)), rfl⟩, ⟨⟨by decide +kernel, by decide +kernel⟩, by decide +kernel⟩⟩
set_option maxRecDepth 20000 in
theorem lv_X9_rule : FLV yX9_rule 10 := ⟨by decide, by decide +kernel, ⟨List.mem_append_right _ (List.mem_of_getElem? (i := 761) (by decide +kernel)), rfl⟩, ⟨List.mem_append_right _ (List.mem_of_getElem? (i := 762) (by decide +kernel)), rfl⟩⟩
set_option maxRecDepth 20000 in
theorem lc_L_18 : FLC RL 18 yX8_station cX8_station 2 (some .int) 1 := ⟨Or.inl ⟨List.mem_append_right _ (List.mem_of_getElem? (i := 159) (by decide +kernel)), rfl⟩, ⟨List.mem_append_right _ (List.mem_of_getElem? (i := 162) (by decide +kernel)), rfl⟩, ⟨List.mem_append_right _ (List.mem_of_getElem? (i := 1) (by decide +kernel)), rfl⟩, ⟨⟨by decide +kernel, by decide +kernel⟩, by decide +kernel⟩⟩
set_option maxRecDepth 20000 in
theorem lv_X8_station : FLV yX8_station 9 := ⟨by decide, by decide +kernel, ⟨List.mem_append_right _ (List.mem_of_getElem? (i := 160) (by decide +kernel)), rfl⟩, ⟨List.mem_append_right _ (List.mem_of_getElem? (i := 161) (by decide +kernel)), rfl⟩⟩
set_option maxRecDepth 20000 in
theorem lc_L_22 : FLC RL 22 yX9_station cX9_station 2 (some .int) 1 := ⟨Or.inl ⟨List.mem_append_right _ (List.mem_of_getElem? (i := 767) (by decide +kernel)), rfl⟩, ⟨List.mem_append_right _ (List.mem_of_getElem? (i := 770) (by decide +kernel)), rfl⟩, ⟨List.mem_append_right _ (List.mem_of_getElem? (i := 7) (by decide +kernel)), rfl⟩, ⟨⟨by decide +kernel, by decide +kernel⟩, by decide +kernel⟩⟩
set_option maxRecDepth 20000 in
theorem lv_X9_station : FLV yX9_station 10 := ⟨by decide, by decide +kernel, ⟨List.mem_append_right _ (List.mem_of_getElem? (i := 768) (by decide +kernel)), rfl⟩, ⟨List.mem_append_right _ (List.mem_of_getElem? (i := 769) (by decide +kernel)), rfl⟩⟩
set_option maxRecDepth 20000 in
theorem lc_L_23 : FLC RL 23 yX8_town cX8_town 2 (some .int) 1 := ⟨Or.inl ⟨List.mem_append_right _ (List.mem_of_getElem? (i := 261) (by decide +kernel)), rfl⟩, ⟨List.mem_append_right _ (List.mem_of_getElem? (i := 264) (by decide +kernel)), rfl⟩, ⟨List.mem_append_right _ (List.mem_of_getElem? (i := 1) (by decide +kernel)), rfl⟩, ⟨⟨by decide +kernel, by decide +kernel⟩, by decide +kernel⟩⟩
set_option maxRecDepth 20000 in
theorem lv_X8_town : FLV yX8_town 9 := ⟨by decide, by decide +kernel, ⟨List.mem_append_right _ (List.mem_of_getElem? (i := 262) (by decide +kernel)), rfl⟩, ⟨List.mem_append_right _ (List.mem_of_getElem? (i := 263) (by decide +kernel)), rfl⟩⟩
set_option maxRecDepth 20000 in
theorem lc_L_26 : FLC RL 26 yX9_town cX9_town 2 (some .int) 1 := ⟨Or.inl ⟨List.mem_append_right _ (List.mem_of_getElem? (i := 774) (by decide +kernel)), rfl⟩, ⟨List.mem_append_right _ (List.mem_of_getElem? (i := 777) (by decide +kernel)), rfl⟩, ⟨List.mem_append_right _ (List.mem_of_getElem? (i := 7) (by decide +kernel)), rfl⟩, ⟨⟨by decide +kernel, by decide +kernel⟩, by decide +kernel⟩⟩
set_option maxRecDepth 20000 in
theorem lv_X9_town : FLV yX9_town 10 := ⟨by decide, by decide +kernel, ⟨List.mem_append_right _ (List.mem_of_getElem? (i := 775) (by decide +kernel)), rfl⟩, ⟨List.mem_append_right _ (List.mem_of_getElem? (i := 776) (by decide +kernel)), rfl⟩⟩
set_option maxRecDepth 20000 in
theorem lc_L_27 : FLC RL 27 yX8_deaf cX8_deaf 5 (some .int) 2 := ⟨Or.inl ⟨List.mem_append_right _ (List.mem_of_getElem? (i := 276) (by decide +kernel)), rfl⟩, ⟨List.mem_append_right _ (List.mem_of_getElem? (i := 279) (by decide +kernel)), rfl⟩, ⟨List.mem_append_right _ (List.mem_of_getElem? (i := 1) (by decide +kernel)), rfl⟩, ⟨⟨by decide +kernel, by decide +kernel⟩, by decide +kernel⟩⟩
set_option maxRecDepth 20000 in
theorem lv_X8_deaf : FLV yX8_deaf 9 := ⟨by decide, by decide +kernel, ⟨List.mem_append_right _ (List.mem_of_getElem? (i := 277) (by decide +kernel)), rfl⟩, ⟨List.mem_append_right _ (List.mem_of_getElem? (i := 278) (by decide +kernel)), rfl⟩⟩
set_option maxRecDepth 20000 in
theorem lc_L_31 : FLC RL 31 yX9_deaf cX9_deaf 4 (some .int) 2 := ⟨Or.inl ⟨List.mem_append_right _ (List.mem_of_getElem? (i := 778) (by decide +kernel)), rfl⟩, ⟨List.mem_append_right _ (List.mem_of_getElem? (i := 781) (by decide +kernel)), rfl⟩, ⟨List.mem_append_right _ (List.mem_of_getElem? (i := 7) (by decide +kernel)), rfl⟩, ⟨⟨by decide +kernel, by decide +kernel⟩, by decide +kernel⟩⟩
set_option maxRecDepth 20000 in
theorem lv_X9_deaf : FLV yX9_deaf 10 := ⟨by decide, by decide +kernel, ⟨List.mem_append_right _ (List.mem_of_getElem? (i := 779) (by decide +kernel)), rfl⟩, ⟨List.mem_append_right _ (List.mem_of_getElem? (i := 780) (by decide +kernel)), rfl⟩⟩
set_option maxRecDepth 20000 in
theorem lc_L_32 : FLC RL 32 yX8_travel cX8_travel 3 (some .int) 2 := ⟨Or.inl ⟨List.mem_append_right _ (List.mem_of_getElem? (i := 302) (by decide +kernel)), rfl⟩, ⟨List.mem_append_right _ (List.mem_of_getElem? (i := 305) (by decide +kernel)), rfl⟩, ⟨List.mem_append_right _ (List.mem_of_getElem? (i := 1) (by decide +kernel)), rfl⟩, ⟨⟨by decide +kernel, by decide +kernel⟩, by decide +kernel⟩⟩
set_option maxRecDepth 20000 in
theorem lv_X8_travel : FLV yX8_travel 9 := ⟨by decide, by decide +kernel, ⟨List.mem_append_right _ (List.mem_of_getElem? (i := 303) (by decide +kernel)), rfl⟩, ⟨List.mem_append_right _ (List.mem_of_getElem? (i := 304) (by decide +kernel)), rfl⟩⟩
set_option maxRecDepth 20000 in
theorem lc_L_35 : FLC RL 35 yX9_travel cX9_travel 3 (some .int) 2 := ⟨Or.inl ⟨List.mem_append_right _ (List.mem_of_getElem? (i := 786) (by decide +kernel)), rfl⟩, ⟨List.mem_append_right _ (List.mem_of_getElem? (i := 789) (by decide +kernel)), rfl⟩, ⟨List.mem_append_right _ (List.mem_of_getElem? (i := 7) (by decide +kernel)), rfl⟩, ⟨⟨by decide +kernel, by decide +kernel⟩, by decide +kernel⟩⟩
set_option maxRecDepth 20000 in
theorem lv_X9_travel : FLV yX9_travel 10 := ⟨by decide, by decide +kernel, ⟨List.mem_append_right _ (List.mem_of_getElem? (i := 787) (by decide +kernel)), rfl⟩, ⟨List.mem_append_right _ (List.mem_of_getElem? (i := 788) (by decide +kernel)), rfl⟩⟩
set_option maxRecDepth 20000 in
theorem lc_L_36 : FLC RL 36 yX8_later cX8_later 2 (some .int) 1 := ⟨Or.inl ⟨List.mem_append_right _ (List.mem_of_getElem? (i := 313) (by decide +kernel)), rfl⟩, ⟨List.mem_append_right _ (List.mem_of_getElem? (i := 316) (by decide +kernel)), rfl⟩, ⟨List.mem_append_right _ (List.mem_of_getElem? (i := 1) (by decide +kernel)), rfl⟩, ⟨⟨by decide +kernel, by decide +kernel⟩, by decide +kernel⟩⟩
set_option maxRecDepth 20000 in
theorem lv_X8_later : FLV yX8_later 9 := ⟨by decide, by decide +kernel, ⟨List.mem_append_right _ (List.mem_of_getElem? (i := 314) (by decide +kernel)), rfl⟩, ⟨List.mem_append_right _ (List.mem_of_getElem? (i := 315) (by decide +kernel)), rfl⟩⟩
set_option maxRecDepth 20000 in
theorem lc_L_39 : FLC RL 39 yX9_later cX9_later 2 (some .int) 1 := ⟨Or.inl ⟨List.mem_append_right _ (List.mem_of_getElem? (i := 794) (by decide +kernel)), rfl⟩, ⟨List.mem_append_right _ (List.mem_of_getElem? (i := 797) (by decide +kernel)), rfl⟩, ⟨List.mem_append_right _ (List.mem_of_getElem? (i := 7) (by decide +kernel)), rfl⟩, ⟨⟨by decide +kernel, by decide +kernel⟩, by decide +kernel⟩⟩
set_option maxRecDepth 20000 in
theorem lv_X9_later : FLV yX9_later 10 := ⟨by decide, by decide +kernel, ⟨List.mem_append_right _ (List.mem_of_getElem? (i := 795) (by decide +kernel)), rfl⟩, ⟨List.mem_append_right _ (List.mem_of_getElem? (i := 796) (by decide +kernel)), rfl⟩⟩
set_option maxRecDepth 20000 in
theorem lc_L_40 : FLC RL 40 yX8_row cX8_row 3 (some .int) 2 := ⟨Or.inl ⟨List.mem_append_right _ (List.mem_of_getElem? (i := 318) (by decide +kernel)), rfl⟩, ⟨List.mem_append_right _ (List.mem_of_getElem? (i := 321) (by decide +kernel)), rfl⟩, ⟨List.mem_append_right _ (List.mem_of_getElem? (i := 1) (by decide +kernel)), rfl⟩, ⟨⟨by decide +kernel, by decide +kernel⟩, by decide +kernel⟩⟩
set_option maxRecDepth 20000 in
theorem lv_X8_row : FLV yX8_row 9 := ⟨by decide, by decide +kernel, ⟨List.mem_append_right _ (List.mem_of_getElem? (i := 319) (by decide +kernel)), rfl⟩, ⟨List.mem_append_right _ (List.mem_of_getElem? (i := 320) (by decide +kernel)), rfl⟩⟩
set_option maxRecDepth 20000 in
theorem lc_L_43 : FLC RL 43 yX9_row cX9_row 4 (some .int) 2 := ⟨Or.inl ⟨List.mem_append_right _ (List.mem_of_getElem? (i := 799) (by decide +kernel)), rfl⟩, ⟨List.mem_append_right _ (List.mem_of_getElem? (i := 802) (by decide +kernel)), rfl⟩, ⟨List.mem_append_right _ (List.mem_of_getElem? (i := 7) (by decide +kernel)), rfl⟩, ⟨⟨by decide +kernel, by decide +kernel⟩, by decide +kernel⟩⟩
set_option maxRecDepth 20000 in
theorem lv_X9_row : FLV yX9_row 10 := ⟨by decide, by decide +kernel, ⟨List.mem_append_right _ (List.mem_of_getElem? (i := 800) (by decide +kernel)), rfl⟩, ⟨List.mem_append_right _ (List.mem_of_getElem? (i := 801) (by decide +kernel)), rfl⟩⟩
set_option maxRecDepth 20000 in
theorem lc_L_44 : FLC RL 44 yX8_lay cX8_lay 5 (some .int) 3 := ⟨Or.inl ⟨List.mem_append_right _ (List.mem_of_getElem? (i := 334) (by decide +kernel)), rfl⟩, ⟨List.mem_append_right _ (List.mem_of_getElem? (i := 337) (by decide +kernel)), rfl⟩, ⟨List.mem_append_right _ (List.mem_of_getElem? (i := 1) (by decide +kernel)), rfl⟩, ⟨⟨by decide +kernel, by decide +kernel⟩, by decide +kernel⟩⟩
set_option maxRecDepth 20000 in
theorem lv_X8_lay : FLV yX8_lay 9 := ⟨by decide, by decide +kernel, ⟨List.mem_append_right _ (List.mem_of_getElem? (i := 335) (by decide +kernel)), rfl⟩, ⟨List.mem_append_right _ (List.mem_of_getElem? (i := 336) (by decide +kernel)), rfl⟩⟩
set_option maxRecDepth 20000 in
theorem lc_L_48 : FLC RL 48 yX9_lay cX9_lay 4 (some .int) 3 := ⟨Or.inl ⟨List.mem_append_right _ (List.mem_of_getElem? (i := 807) (by decide +kernel)), rfl⟩, ⟨List.mem_append_right _ (List.mem_of_getElem? (i := 810) (by decide +kernel)), rfl⟩, ⟨List.mem_append_right _ (List.mem_of_getElem? (i := 7) (by decide +kernel)), rfl⟩, ⟨⟨by decide +kernel, by decide +kernel⟩, by decide +kernel⟩⟩
set_option maxRecDepth 20000 in
theorem lv_X9_lay : FLV yX9_lay 10 := ⟨by decide, by decide +kernel, ⟨List.mem_append_right _ (List.mem_of_getElem? (i := 808) (by decide +kernel)), rfl⟩, ⟨List.mem_append_right _ (List.mem_of_getElem? (i := 809) (by decide +kernel)), rfl⟩⟩
set_option maxRecDepth 20000 in
theorem lc_L_49 : FLC RL 49 yX8_tear cX8_tear 3 (some .int) 1 := ⟨Or.inl ⟨List.mem_append_right _ (List.mem_of_getElem? (i := 347) (by decide +kernel)), rfl⟩, ⟨List.mem_append_right _ (List.mem_of_getElem? (i := 350) (by decide +kernel)), rfl⟩, ⟨List.mem_append_right _ (List.mem_of_getElem? (i := 1) (by decide +kernel)), rfl⟩, ⟨⟨by decide +kernel, by decide +kernel⟩, by decide +kernel⟩⟩
set_option maxRecDepth 20000 in
theorem lv_X8_tear : FLV yX8_tear 9 := ⟨by decide, by decide +kernel, ⟨List.mem_append_right _ (List.mem_of_getElem? (i := 348) (by decide +kernel)), rfl⟩, ⟨List.mem_append_right _ (List.mem_of_getElem? (i := 349) (by decide +kernel)), rfl⟩⟩
set_option maxRecDepth 20000 in
theorem lc_L_52 : FLC RL 52 yX9_tear cX9_tear 2 (some .int) 1 := ⟨Or.inl ⟨List.mem_append_right _ (List.mem_of_getElem? (i := 812) (by decide +kernel)), rfl⟩, ⟨List.mem_append_right _ (List.mem_of_getElem? (i := 815) (by decide +kernel)), rfl⟩, ⟨List.mem_append_right _ (List.mem_of_getElem? (i := 7) (by decide +kernel)), rfl⟩, ⟨⟨by decide +kernel, by decide +kernel⟩, by decide +kernel⟩⟩
set_option maxRecDepth 20000 in
theorem lv_X9_tear : FLV yX9_tear 10 := ⟨by decide, by decide +kernel, ⟨List.mem_append_right _ (List.mem_of_getElem? (i := 813) (by decide +kernel)), rfl⟩, ⟨List.mem_append_right _ (List.mem_of_getElem? (i := 814) (by decide +kernel)), rfl⟩⟩
set_option maxRecDepth 20000 in
theorem lc_L_53 : FLC RL 53 yX8_copy cX8_copy 8 (some .int) 5 := ⟨Or.inl ⟨List.mem_append_right _ (List.mem_of_getElem? (i := 351) (by decide +kernel)), rfl⟩, ⟨List.mem_append_right _ (List.mem_of_getElem? (i := 354) (by decide +kernel)), rfl⟩, ⟨List.mem_append_right _ (List.mem_of_getElem? (i := 1) (by decide +kernel)), rfl⟩, ⟨⟨by decide +kernel, by decide +kernel⟩, by decide +kernel⟩⟩
set_option maxRecDepth 20000 in
theorem lv_X8_copy : FLV yX8_copy 9 := ⟨by decide, by decide +kernel, ⟨List.mem_append_right _ (List.mem_of_getElem? (i := 352) (by decide +kernel)), rfl⟩, ⟨List.mem_append_right _ (List.mem_of_getElem? (i := 353) (by decide +kernel)), rfl⟩⟩
set_option maxRecDepth 20000 in
theorem lc_L_57 : FLC RL 57 yX9_copy cX9_copy 7 (some .int) 5 := ⟨Or.inl ⟨List.mem_append_right _ (List.mem_of_getElem? (i := 816) (by decide +kernel)), rfl⟩, ⟨List.mem_append_right _ (List.mem_of_getElem? (i := 819) (by decide +kernel)), rfl⟩, ⟨List.mem_append_right _ (List.mem_of_getElem? (i := 7) (by decide +kernel)), rfl⟩, ⟨⟨by decide +kernel, by decide +kernel⟩, by decide +kernel⟩⟩
set_option maxRecDepth 20000 in
theorem lv_X9_copy : FLV yX9_copy 10 := ⟨by decide, by decide +kernel, ⟨List.mem_append_right _ (List.mem_of_getElem? (i := 817) (by decide +kernel)), rfl⟩, ⟨List.mem_append_right _ (List.mem_of_getElem? (i := 818) (by decide +kernel)), rfl⟩⟩
set_option maxRecDepth 20000 in
theorem lc_L_58 : FLC RL 58 yX8_mean cX8_mean 3 (some .int) 1 := ⟨Or.inl ⟨List.mem_append_right _ (List.mem_of_getElem? (i := 356) (by decide +kernel)), rfl⟩, ⟨List.mem_append_right _ (List.mem_of_getElem? (i := 359) (by decide +kernel)), rfl⟩, ⟨List.mem_append_right _ (List.mem_of_getElem? (i := 1) (by decide +kernel)), rfl⟩, ⟨⟨by decide +kernel, by decide +kernel⟩, by decide +kernel⟩⟩
set_option maxRecDepth 20000 in
theorem lv_X8_mean : FLV yX8_mean 9 := ⟨by decide, by decide +kernel, ⟨List.mem_append_right _ (List.mem_of_getElem? (i := 357) (by decide +kernel)), rfl⟩, ⟨List.mem_append_right _ (List.mem_of_getElem? (i := 358) (by decide +kernel)), rfl⟩⟩
set_option maxRecDepth 20000 in
theorem lc_L_61 : FLC RL 61 yX9_mean cX9_mean 2 (some .int) 1 := ⟨Or.inl ⟨List.mem_append_right _ (List.mem_of_getElem? (i := 820) (by decide +kernel)), rfl⟩, ⟨List.mem_append_right _ (List.mem_of_getElem? (i := 823) (by decide +kernel)), rfl⟩, ⟨List.mem_append_right _ (List.mem_of_getElem? (i := 7) (by decide +kernel)), rfl⟩, ⟨⟨by decide +kernel, by decide +kernel⟩, by decide +kernel⟩⟩
set_option maxRecDepth 20000 in
theorem lv_X9_mean : FLV yX9_mean 10 := ⟨by decide, by decide +kernel, ⟨List.mem_append_right _ (List.mem_of_getElem? (i := 821) (by decide +kernel)), rfl⟩, ⟨List.mem_append_right _ (List.mem_of_getElem? (i := 822) (by decide +kernel)), rfl⟩⟩
set_option maxRecDepth 20000 in
theorem lc_L_62 : FLC RL 62 yX8_first cX8_first 7 (some .int) 5 := ⟨Or.inl ⟨List.mem_append_right _ (List.mem_of_getElem? (i := 365) (by decide +kernel)), rfl⟩, ⟨List.mem_append_right _ (List.mem_of_getElem? (i := 368) (by decide +kernel)), rfl⟩, ⟨List.mem_append_right _ (List.mem_of_getElem? (i := 1) (by decide +kernel)), rfl⟩, ⟨⟨by decide +kernel, by decide +kernel⟩, by decide +kernel⟩⟩
set_option maxRecDepth 20000 in
theorem lv_X8_first : FLV yX8_first 9 := ⟨by decide, by decide +kernel, ⟨List.mem_append_right _ (List.mem_of_getElem? (i := 366) (by decide +kernel)), rfl⟩, ⟨List.mem_append_right _ (List.mem_of_getElem? (i := 367) (by decide +kernel)), rfl⟩⟩
set_option maxRecDepth 20000 in
theorem lc_L_65 : FLC RL 65 yX9_first cX9_first 7 (some .int) 5 := ⟨Or.inl ⟨List.mem_append_right _ (List.mem_of_getElem? (i := 828) (by decide +kernel)), rfl⟩, ⟨List.mem_append_right _ (List.mem_of_getElem? (i := 831) (by decide +kernel)), rfl⟩, ⟨List.mem_append_right _ (List.mem_of_getElem? (i := 7) (by decide +kernel)), rfl⟩, ⟨⟨by decide +kernel, by decide +kernel⟩, by decide +kernel⟩⟩
set_option maxRecDepth 20000 in
theorem lv_X9_first : FLV yX9_first 10 := ⟨by decide, by decide +kernel, ⟨List.mem_append_right _ (List.mem_of_getElem? (i := 829) (by decide +kernel)), rfl⟩, ⟨List.mem_append_right _ (List.mem_of_getElem? (i := 830) (by decide +kernel)), rfl⟩⟩
set_option maxRecDepth 20000 in
theorem lc_L_66 : FLC RL 66 yX8_pick cX8_pick 6 (some .int) 3 := ⟨Or.inl ⟨List.mem_append_right _ (List.mem_of_getElem? (i := 374) (by decide +kernel)), rfl⟩, ⟨List.mem_append_right _ (List.mem_of_getElem? (i := 377) (by decide +kernel)), rfl⟩, ⟨List.mem_append_right _ (List.mem_of_getElem? (i := 1) (by decide +kernel)), rfl⟩, ⟨⟨by decide +kernel, by decide +kernel⟩, by decide +kernel⟩⟩
set_option maxRecDepth 20000 in
theorem lv_X8_pick : FLV yX8_pick 9 := ⟨by decide, by decide +kernel, ⟨List.mem_append_right _ (List.mem_of_getElem? (i := 375) (by decide +kernel)), rfl⟩, ⟨List.mem_append_right _ (List.mem_of_getElem? (i := 376) (by decide +kernel)), rfl⟩⟩
set_option maxRecDepth 20000 in
theorem lc_L_69 : FLC RL 69 yX9_pick cX9_pick 7 (some .int) 3 := ⟨Or.inl ⟨List.mem_append_right _ (List.mem_of_getElem? (i := 832) (by decide +kernel)), rfl⟩, ⟨List.mem_append_right _ (List.mem_of_getElem? (i := 835) (by decide +kernel)), rfl⟩, ⟨List.mem_append_right _ (List.mem_of_getElem? (i := 7) (by decide +kernel)), rfl⟩, ⟨⟨by decide +kernel, by decide +kernel⟩, by decide +kernel⟩⟩
set_option maxRecDepth 20000 in
theorem lv_X9_pick : FLV yX9_pick 10 := ⟨by decide, by decide +kernel, ⟨List.mem_append_right _ (List.mem_of_getElem? (i := 833) (by decide +kernel)), rfl⟩, ⟨List.mem_append_right _ (List.mem_of_getElem? (i := 834) (by decide +kernel)), rfl⟩⟩
set_option maxRecDepth 20000 in
theorem lc_L_70 : FLC RL 70 yX8_told cX8_told 4 (some .int) 2 := ⟨Or.inl ⟨List.mem_append_right _ (List.mem_of_getElem? (i := 492) (by decide +kernel)), rfl⟩, ⟨List.mem_append_right _ (List.mem_of_getElem? (i := 495) (by decide +kernel)), rfl⟩, ⟨List.mem_append_right _ (List.mem_of_getElem? (i := 1) (by decide +kernel)), rfl⟩, ⟨⟨by decide +kernel, by decide +kernel⟩, by decide +kernel⟩⟩
set_option maxRecDepth 20000 in
theorem lc_L_73 : FLC RL 73 yX9_told cX9_told 3 (some .int) 2 := ⟨Or.inl ⟨List.mem_append_right _ (List.mem_of_getElem? (i := 847) (by decide +kernel)), rfl⟩, ⟨List.mem_append_right _ (List.mem_of_getElem? (i := 850) (by decide +kernel)), rfl⟩, ⟨List.mem_append_right _ (List.mem_of_getElem? (i := 7) (by decide +kernel)), rfl⟩, ⟨⟨by decide +kernel, by decide +kernel⟩, by decide +kernel⟩⟩
set_option maxRecDepth 20000 in
theorem lv_X9_told : FLV yX9_told 10 := ⟨by decide, by decide +kernel, ⟨List.mem_append_right _ (List.mem_of_getElem? (i := 848) (by decide +kernel)), rfl⟩, ⟨List.mem_append_right _ (List.mem_of_getElem? (i := 849) (by decide +kernel)), rfl⟩⟩
set_option maxRecDepth 20000 in
theorem lc_L_74 : FLC RL 74 yX8_mark cX8_mark 4 (some .int) 2 := ⟨Or.inl ⟨List.mem_append_right _ (List.mem_of_getElem? (i := 500) (by decide +kernel)), rfl⟩, ⟨List.mem_append_right _ (List.mem_of_getElem? (i := 503) (by decide +kernel)), rfl⟩, ⟨List.mem_append_right _ (List.mem_of_getElem? (i := 1) (by decide +kernel)), rfl⟩, ⟨⟨by decide +kernel, by decide +kernel⟩, by decide +kernel⟩⟩
set_option maxRecDepth 20000 in
theorem lv_X8_mark : FLV yX8_mark 9 := ⟨by decide, by decide +kernel, ⟨List.mem_append_right _ (List.mem_of_getElem? (i := 501) (by decide +kernel)), rfl⟩, ⟨List.mem_append_right _ (List.mem_of_getElem? (i := 502) (by decide +kernel)), rfl⟩⟩
set_option maxRecDepth 20000 in
theorem lc_L_77 : FLC RL 77 yX9_mark cX9_mark 4 (some .int) 2 := ⟨Or.inl ⟨List.mem_append_right _ (List.mem_of_getElem? (i := 863) (by decide +kernel)), rfl⟩, ⟨List.mem_append_right _ (List.mem_of_getElem? (i := 866) (by decide +kernel)), rfl⟩, ⟨List.mem_append_right _ (List.mem_of_getElem? (i := 7) (by decide +kernel)), rfl⟩, ⟨⟨by decide +kernel, by decide +kernel⟩, by decide +kernel⟩⟩
set_option maxRecDepth 20000 in
theorem lv_X9_mark : FLV yX9_mark 10 := ⟨by decide, by decide +kernel, ⟨List.mem_append_right _ (List.mem_of_getElem? (i := 864) (by decide +kernel)), rfl⟩, ⟨List.mem_append_right _ (List.mem_of_getElem? (i := 865) (by decide +kernel)), rfl⟩⟩
set_option maxRecDepth 20000 in
theorem lc_L_78 : FLC RL 78 yX8_quake cX8_quake 3 (some .int) 2 := ⟨Or.inl ⟨List.mem_append_right _ (List.mem_of_getElem? (i := 508) (by decide +kernel)), rfl⟩, ⟨List.mem_append_right _ (List.mem_of_getElem? (i := 511) (by decide +kernel)), rfl⟩, ⟨List.mem_append_right _ (List.mem_of_getElem? (i := 1) (by decide +kernel)), rfl⟩, ⟨⟨by decide +kernel, by decide +kernel⟩, by decide +kernel⟩⟩
set_option maxRecDepth 20000 in
theorem lc_L_81 : FLC RL 81 yX9_quake cX9_quake 3 (some .int) 2 := ⟨Or.inl ⟨List.mem_append_right _ (List.mem_of_getElem? (i := 867) (by decide +kernel)), rfl⟩, ⟨List.mem_append_right _ (List.mem_of_getElem? (i := 870) (by decide +kernel)), rfl⟩, ⟨List.mem_append_right _ (List.mem_of_getElem? (i := 7) (by decide +kernel)), rfl⟩, ⟨⟨by decide +kernel, by decide +kernel⟩, by decide +kernel⟩⟩
set_option maxRecDepth 20000 in
theorem lv_X9_quake : FLV yX9_quake 10 := ⟨by decide, by decide +kernel, ⟨List.mem_append_right _ (List.mem_of_getElem? (i := 868) (by decide +kernel)), rfl⟩, ⟨List.mem_append_right _ (List.mem_of_getElem? (i := 869) (by decide +kernel)), rfl⟩⟩
set_option maxRecDepth 20000 in
theorem lc_L_82 : FLC RL 82 yX8_cell cX8_cell 3 (some .int) 2 := ⟨Or.inl ⟨List.mem_append_right _ (List.mem_of_getElem? (i := 520) (by decide +kernel)), rfl⟩, ⟨List.mem_append_right _ (List.mem_of_getElem? (i := 523) (by decide +kernel)), rfl⟩, ⟨List.mem_append_right _ (List.mem_of_getElem? (i := 1) (by decide +kernel)), rfl⟩, ⟨⟨by decide +kernel, by decide +kernel⟩, by decide +kernel⟩⟩
set_option maxRecDepth 20000 in
theorem lv_X8_cell : FLV yX8_cell 9 := ⟨by decide, by decide +kernel, ⟨List.mem_append_right _ (List.mem_of_getElem? (i := 521) (by decide +kernel)), rfl⟩, ⟨List.mem_append_right _ (List.mem_of_getElem? (i := 522) (by decide +kernel)), rfl⟩⟩
set_option maxRecDepth 20000 in
theorem lc_L_85 : FLC RL 85 yX9_cell cX9_cell 6 (some .int) 2 := ⟨Or.inl ⟨List.mem_append_right _ (List.mem_of_getElem? (i := 894) (by decide +kernel)), rfl⟩, ⟨List.mem_append_right _ (List.mem_of_getElem? (i := 897) (by decide +kernel)), rfl⟩, ⟨List.mem_append_right _ (List.mem_of_getElem? (i := 7) (by decide +kernel)), rfl⟩, ⟨⟨by decide +kernel, by decide +kernel⟩, by decide +kernel⟩⟩
set_option maxRecDepth 20000 in
theorem lv_X9_cell : FLV yX9_cell 10 := ⟨by decide, by decide +kernel, ⟨List.mem_append_right _ (List.mem_of_getElem? (i := 895) (by decide +kernel)), rfl⟩, ⟨List.mem_append_right _ (List.mem_of_getElem? (i := 896) (by decide +kernel)), rfl⟩⟩
set_option maxRecDepth 20000 in
theorem lc_L_86 : FLC RL 86 yX8_time cX8_time 5 (some .int) 3 := ⟨Or.inl ⟨List.mem_append_right _ (List.mem_of_getElem? (i := 528) (by decide +kernel)), rfl⟩, ⟨List.mem_append_right _ (List.mem_of_getElem? (i := 531) (by decide +kernel)), rfl⟩, ⟨List.mem_append_right _ (List.mem_of_getElem? (i := 1) (by decide +kernel)), rfl⟩, ⟨⟨by decide +kernel, by decide +kernel⟩, by decide +kernel⟩⟩
set_option maxRecDepth 20000 in
theorem lv_X8_time : FLV yX8_time 9 := ⟨by decide, by decide +kernel, ⟨List.mem_append_right _ (List.mem_of_getElem? (i := 529) (by decide +kernel)), rfl⟩, ⟨List.mem_append_right _ (List.mem_of_getElem? (i := 530) (by decide +kernel)), rfl⟩⟩
set_option maxRecDepth 20000 in
theorem lc_L_90 : FLC RL 90 yX9_time cX9_time 5 (some .int) 3 := ⟨Or.inl ⟨List.mem_append_right _ (List.mem_of_getElem? (i := 898) (by decide +kernel)), rfl⟩, ⟨List.mem_append_right _ (List.mem_of_getElem? (i := 901) (by decide +kernel)), rfl⟩, ⟨List.mem_append_right _ (List.mem_of_getElem? (i := 7) (by decide +kernel)), rfl⟩, ⟨⟨by decide +kernel, by decide +kernel⟩, by decide +kernel⟩⟩
set_option maxRecDepth 20000 in
theorem lv_X9_time : FLV yX9_time 10 := ⟨by decide, by decide +kernel, ⟨List.mem_append_right _ (List.mem_of_getElem? (i := 899) (by decide +kernel)), rfl⟩, ⟨List.mem_append_right _ (List.mem_of_getElem? (i := 900) (by decide +kernel)), rfl⟩⟩
set_option maxRecDepth 20000 in
theorem lc_L_91 : FLC RL 91 yX8_holds cX8_holds 5 (some .int) 3 := ⟨Or.inl ⟨List.mem_append_right _ (List.mem_of_getElem? (i := 533) (by decide +kernel)), rfl⟩, ⟨List.mem_append_right _ (List.mem_of_getElem? (i := 536) (by decide +kernel)), rfl⟩, ⟨List.mem_append_right _ (List.mem_of_getElem? (i := 1) (by decide +kernel)), rfl⟩, ⟨⟨by decide +kernel, by decide +kernel⟩, by decide +kernel⟩⟩
set_option maxRecDepth 20000 in
theorem lv_X8_holds : FLV yX8_holds 9 := ⟨by decide, by decide +kernel, ⟨List.mem_append_right _ (List.mem_of_getElem? (i := 534) (by decide +kernel)), rfl⟩, ⟨List.mem_append_right _ (List.mem_of_getElem? (i := 535) (by decide +kernel)), rfl⟩⟩
set_option maxRecDepth 20000 in
theorem lc_L_94 : FLC RL 94 yX9_holds cX9_holds 5 (some .int) 3 := ⟨Or.inl ⟨List.mem_append_right _ (List.mem_of_getElem? (i := 902) (by decide +kernel)), rfl⟩, ⟨List.mem_append_right _ (List.mem_of_getElem? (i := 905) (by decide +kernel)), rfl⟩, ⟨List.mem_append_right _ (List.mem_of_getElem? (i := 7) (by decide +kernel)), rfl⟩, ⟨⟨by decide +kernel, by decide +kernel⟩, by decide +kernel⟩⟩
set_option maxRecDepth 20000 in
theorem lv_X9_holds : FLV yX9_holds 10 := ⟨by decide, by decide +kernel, ⟨List.mem_append_right _ (List.mem_of_getElem? (i := 903) (by decide +kernel)), rfl⟩, ⟨List.mem_append_right _ (List.mem_of_getElem? (i := 904) (by decide +kernel)), rfl⟩⟩
set_option maxRecDepth 20000 in
theorem lc_L_95 : FLC RL 95 yX8_felt cX8_felt 3 (some .int) 2 := ⟨Or.inl ⟨List.mem_append_right _ (List.mem_of_getElem? (i := 537) (by decide +kernel)), rfl⟩, ⟨List.mem_append_right _ (List.mem_of_getElem? (i := 540) (by decide +kernel)), rfl⟩, ⟨List.mem_append_right _ (List.mem_of_getElem? (i := 1) (by decide +kernel)), rfl⟩, ⟨⟨by decide +kernel, by decide +kernel⟩, by decide +kernel⟩⟩
set_option maxRecDepth 20000 in
theorem lv_X8_felt : FLV yX8_felt 9 := ⟨by decide, by decide +kernel, ⟨List.mem_append_right _ (List.mem_of_getElem? (i := 538) (by decide +kernel)), rfl⟩, ⟨List.mem_append_right _ (List.mem_of_getElem? (i := 539) (by decide +kernel)), rfl⟩⟩
set_option maxRecDepth 20000 in
theorem lc_L_98 : FLC RL 98 yX9_felt cX9_felt 4 (some .int) 2 := ⟨Or.inl ⟨List.mem_append_right _ (List.mem_of_getElem? (i := 906) (by decide +kernel)), rfl⟩, ⟨List.mem_append_right _ (List.mem_of_getElem? (i := 909) (by decide +kernel)), rfl⟩, ⟨List.mem_append_right _ (List.mem_of_getElem? (i := 7) (by decide +kernel)), rfl⟩, ⟨⟨by decide +kernel, by decide +kernel⟩, by decide +kernel⟩⟩
set_option maxRecDepth 20000 in
theorem lv_X9_felt : FLV yX9_felt 10 := ⟨by decide, by decide +kernel, ⟨List.mem_append_right _ (List.mem_of_getElem? (i := 907) (by decide +kernel)), rfl⟩, ⟨List.mem_append_right _ (List.mem_of_getElem? (i := 908) (by decide +kernel)), rfl⟩⟩
set_option maxRecDepth 20000 in
theorem lc_L_99 : FLC RL 99 yX8_level cX8_level 4 (some .int) 2 := ⟨Or.inl ⟨List.mem_append_right _ (List.mem_of_getElem? (i := 551) (by decide +kernel)), rfl⟩, ⟨List.mem_append_right _ (List.mem_of_getElem? (i := 554) (by decide +kernel)), rfl⟩, ⟨List.mem_append_right _ (List.mem_of_getElem? (i := 1) (by decide +kernel)), rfl⟩, ⟨⟨by decide +kernel, by decide +kernel⟩, by decide +kernel⟩⟩
set_option maxRecDepth 20000 in
theorem lv_X8_level : FLV yX8_level 9 := ⟨by decide, by decide +kernel, ⟨List.mem_append_right _ (List.mem_of_getElem? (i := 552) (by decide +kernel)), rfl⟩, ⟨List.mem_append_right _ (List.mem_of_getElem? (i := 553) (by decide +kernel)), rfl⟩⟩
set_option maxRecDepth 20000 in
theorem lc_L_102 : FLC RL 102 yX9_level cX9_level 4 (some .int) 2 := ⟨Or.inl ⟨List.mem_append_right _ (List.mem_of_getElem? (i := 922) (by decide +kernel)), rfl⟩, ⟨List.mem_append_right _ (List.mem_of_getElem? (i := 925) (by decide +kernel)), rfl⟩, ⟨List.mem_append_right _ (List.mem_of_getElem? (i := 7) (by decide +kernel)), rfl⟩, ⟨⟨by decide +kernel, by decide +kernel⟩, by decide +kernel⟩⟩
set_option maxRecDepth 20000 in
theorem lv_X9_level : FLV yX9_level 10 := ⟨by decide, by decide +kernel, ⟨List.mem_append_right _ (List.mem_of_getElem? (i := 923) (by decide +kernel)), rfl⟩, ⟨List.mem_append_right _ (List.mem_of_getElem? (i := 924) (by decide +kernel)), rfl⟩⟩
set_option maxRecDepth 20000 in
theorem lc_L_103 : FLC RL 103 yX8_warn cX8_warn 5 (some .int) 0 := ⟨Or.inl ⟨List.mem_append_right _ (List.mem_of_getElem? (i := 555) (by decide +kernel)), rfl⟩, ⟨List.mem_append_right _ (List.mem_of_getElem? (i := 558) (by decide +kernel)), rfl⟩, ⟨List.mem_append_right _ (List.mem_of_getElem? (i := 1) (by decide +kernel)), rfl⟩, ⟨⟨by decide +kernel, by decide +kernel⟩, by decide +kernel⟩⟩
set_option maxRecDepth 20000 in
theorem lv_X8_warn : FLV yX8_warn 9 := ⟨by decide, by decide +kernel, ⟨List.mem_append_right _ (List.mem_of_getElem? (i := 556) (by decide +kernel)), rfl⟩, ⟨List.mem_append_right _ (List.mem_of_getElem? (i := 557) (by decide +kernel)), rfl⟩⟩
set_option maxRecDepth 20000 in
theorem lc_L_107 : FLC RL 107 yX9_warn cX9_warn 10 (some .int) 0 := ⟨Or.inl ⟨List.mem_append_right _ (List.mem_of_getElem? (i := 926) (by decide +kernel)), rfl⟩, ⟨List.mem_append_right _ (List.mem_of_getElem? (i := 929) (by decide +kernel)), rfl⟩, ⟨List.mem_append_right _ (List.mem_of_getElem? (i := 7) (by decide +kernel)), rfl⟩, ⟨⟨by decide +kernel, by decide +kernel⟩, by decide +kernel⟩⟩
set_option maxRecDepth 20000 in
theorem lv_X9_warn : FLV yX9_warn 10 := ⟨by decide, by decide +kernel, ⟨List.mem_append_right _ (List.mem_of_getElem? (i := 927) (by decide +kernel)), rfl⟩, ⟨List.mem_append_right _ (List.mem_of_getElem? (i := 928) (by decide +kernel)), rfl⟩⟩
set_option maxRecDepth 20000 in
theorem lc_L_108 : FLC RL 108 yX8_drill cX8_drill 3 (some .int) 2 := ⟨Or.inl ⟨List.mem_append_right _ (List.mem_of_getElem? (i := 610) (by decide +kernel)), rfl⟩, ⟨List.mem_append_right _ (List.mem_of_getElem? (i := 613) (by decide +kernel)), rfl⟩, ⟨List.mem_append_right _ (List.mem_of_getElem? (i := 1) (by decide +kernel)), rfl⟩, ⟨⟨by decide +kernel, by decide +kernel⟩, by decide +kernel⟩⟩
set_option maxRecDepth 20000 in
theorem lv_X8_drill : FLV yX8_drill 9 := ⟨by decide, by decide +kernel, ⟨List.mem_append_right _ (List.mem_of_getElem? (i := 611) (by decide +kernel)), rfl⟩, ⟨List.mem_append_right _ (List.mem_of_getElem? (i := 612) (by decide +kernel)), rfl⟩⟩
set_option maxRecDepth 20000 in
theorem lc_L_111 : FLC RL 111 yX9_drill cX9_drill 3 (some .int) 2 := ⟨Or.inl ⟨List.mem_append_right _ (List.mem_of_getElem? (i := 934) (by decide +kernel)), rfl⟩, ⟨List.mem_append_right _ (List.mem_of_getElem? (i := 937) (by decide +kernel)), rfl⟩, ⟨List.mem_append_right _ (List.mem_of_getElem? (i := 7) (by decide +kernel)), rfl⟩, ⟨⟨by decide +kernel, by decide +kernel⟩, by decide +kernel⟩⟩
set_option maxRecDepth 20000 in
theorem lv_X9_drill : FLV yX9_drill 10 := ⟨by decide, by decide +kernel, ⟨List.mem_append_right _ (List.mem_of_getElem? (i := 935) (by decide +kernel)), rfl⟩, ⟨List.mem_append_right _ (List.mem_of_getElem? (i := 936) (by decide +kernel)), rfl⟩⟩
set_option maxRecDepth 20000 in
theorem lc_L_112 : FLC RL 112 yX8_message cX8_message 4 (some .int) 2 := ⟨Or.inl ⟨List.mem_append_right _ (List.mem_of_getElem? (i := 614) (by decide +kernel)), rfl⟩, ⟨List.mem_append_right _ (List.mem_of_getElem? (i := 617) (by decide +kernel)), rfl⟩, ⟨List.mem_append_right _ (List.mem_of_getElem? (i := 1) (by decide +kernel)), rfl⟩, ⟨⟨by decide +kernel, by decide +kernel⟩, by decide +kernel⟩⟩
set_option maxRecDepth 20000 in
theorem lc_L_115 : FLC RL 115 yX9_message cX9_message 3 (some .int) 2 := ⟨Or.inl ⟨List.mem_append_right _ (List.mem_of_getElem? (i := 938) (by decide +kernel)), rfl⟩, ⟨List.mem_append_right _ (List.mem_of_getElem? (i := 941) (by decide +kernel)), rfl⟩, ⟨List.mem_append_right _ (List.mem_of_getElem? (i := 7) (by decide +kernel)), rfl⟩, ⟨⟨by decide +kernel, by decide +kernel⟩, by decide +kernel⟩⟩
set_option maxRecDepth 20000 in
theorem lv_X9_message : FLV yX9_message 10 := ⟨by decide, by decide +kernel, ⟨List.mem_append_right _ (List.mem_of_getElem? (i := 939) (by decide +kernel)), rfl⟩, ⟨List.mem_append_right _ (List.mem_of_getElem? (i := 940) (by decide +kernel)), rfl⟩⟩
set_option maxRecDepth 20000 in
theorem lc_L_116 : FLC RL 116 yX8_alarm cX8_alarm 5 (some .int) 2 := ⟨Or.inl ⟨List.mem_append_right _ (List.mem_of_getElem? (i := 618) (by decide +kernel)), rfl⟩, ⟨List.mem_append_right _ (List.mem_of_getElem? (i := 621) (by decide +kernel)), rfl⟩, ⟨List.mem_append_right _ (List.mem_of_getElem? (i := 1) (by decide +kernel)), rfl⟩, ⟨⟨by decide +kernel, by decide +kernel⟩, by decide +kernel⟩⟩
set_option maxRecDepth 20000 in
theorem lv_X8_alarm : FLV yX8_alarm 9 := ⟨by decide, by decide +kernel, ⟨List.mem_append_right _ (List.mem_of_getElem? (i := 619) (by decide +kernel)), rfl⟩, ⟨List.mem_append_right _ (List.mem_of_getElem? (i := 620) (by decide +kernel)), rfl⟩⟩
set_option maxRecDepth 20000 in
theorem lc_L_119 : FLC RL 119 yX9_alarm cX9_alarm 5 (some .int) 2 := ⟨Or.inl ⟨List.mem_append_right _ (List.mem_of_getElem? (i := 942) (by decide +kernel)), rfl⟩, ⟨List.mem_append_right _ (List.mem_of_getElem? (i := 945) (by decide +kernel)), rfl⟩, ⟨List.mem_append_right _ (List.mem_of_getElem? (i := 7) (by decide +kernel)), rfl⟩, ⟨⟨by decide +kernel, by decide +kernel⟩, by decide +kernel⟩⟩
set_option maxRecDepth 20000 in
theorem lv_X9_alarm : FLV yX9_alarm 10 := ⟨by decide, by decide +kernel, ⟨List.mem_append_right _ (List.mem_of_getElem? (i := 943) (by decide +kernel)), rfl⟩, ⟨List.mem_append_right _ (List.mem_of_getElem? (i := 944) (by decide +kernel)), rfl⟩⟩
set_option maxRecDepth 20000 in
theorem lc_L_120 : FLC RL 120 yX8_late cX8_late 3 (some .int) 2 := ⟨Or.inl ⟨List.mem_append_right _ (List.mem_of_getElem? (i := 622) (by decide +kernel)), rfl⟩, ⟨List.mem_append_right _ (List.mem_of_getElem? (i := 625) (by decide +kernel)), rfl⟩, ⟨List.mem_append_right _ (List.mem_of_getElem? (i := 1) (by decide +kernel)), rfl⟩, ⟨⟨by decide +kernel, by decide +kernel⟩, by decide +kernel⟩⟩
set_option maxRecDepth 20000 in
theorem lv_X8_late : FLV yX8_late 9 := ⟨by decide, by decide +kernel, ⟨List.mem_append_right _ (List.mem_of_getElem? (i := 623) (by decide +kernel)), rfl⟩, ⟨List.mem_append_right _ (List.mem_of_getElem? (i := 624) (by decide +kernel)), rfl⟩⟩
set_option maxRecDepth 20000 in
theorem lc_L_123 : FLC RL 123 yX9_late cX9_late 3 (some .int) 2 := ⟨Or.inl ⟨List.mem_append_right _ (List.mem_of_getElem? (i := 946) (by decide +kernel)), rfl⟩, ⟨List.mem_append_right _ (List.mem_of_getElem? (i := 949) (by decide +kernel)), rfl⟩, ⟨List.mem_append_right _ (List.mem_of_getElem? (i := 7) (by decide +kernel)), rfl⟩, ⟨⟨by decide +kernel, by decide +kernel⟩, by decide +kernel⟩⟩
set_option maxRecDepth 20000 in
theorem lv_X9_late : FLV yX9_late 10 := ⟨by decide, by decide +kernel, ⟨List.mem_append_right _ (List.mem_of_getElem? (i := 947) (by decide +kernel)), rfl⟩, ⟨List.mem_append_right _ (List.mem_of_getElem? (i := 948) (by decide +kernel)), rfl⟩⟩
set_option maxRecDepth 20000 in
theorem lc_L_124 : FLC RL 124 yX8_left cX8_left 3 (some .int) 2 := ⟨Or.inl ⟨List.mem_append_right _ (List.mem_of_getElem? (i := 636) (by decide +kernel)), rfl⟩, ⟨List.mem_append_right _ (List.mem_of_getElem? (i := 639) (by decide +kernel)), rfl⟩, ⟨List.mem_append_right _ (List.mem_of_getElem? (i := 1) (by decide +kernel)), rfl⟩, ⟨⟨by decide +kernel, by decide +kernel⟩, by decide +kernel⟩⟩
set_option maxRecDepth 20000 in
theorem lv_X8_left : FLV yX8_left 9 := ⟨by decide, by decide +kernel, ⟨List.mem_append_right _ (List.mem_of_getElem? (i := 637) (by decide +kernel)), rfl⟩, ⟨List.mem_append_right _ (List.mem_of_getElem? (i := 638) (by decide +kernel)), rfl⟩⟩
set_option maxRecDepth 20000 in
theorem lc_L_127 : FLC RL 127 yX9_left cX9_left 4 (some .int) 2 := ⟨Or.inl ⟨List.mem_append_right _ (List.mem_of_getElem? (i := 954) (by decide +kernel)), rfl⟩, ⟨List.mem_append_right _ (List.mem_of_getElem? (i := 957) (by decide +kernel)), rfl⟩, ⟨List.mem_append_right _ (List.mem_of_getElem? (i := 7) (by decide +kernel)), rfl⟩, ⟨⟨by decide +kernel, by decide +kernel⟩, by decide +kernel⟩⟩
set_option maxRecDepth 20000 in
theorem lv_X9_left : FLV yX9_left 10 := ⟨by decide, by decide +kernel, ⟨List.mem_append_right _ (List.mem_of_getElem? (i := 955) (by decide +kernel)), rfl⟩, ⟨List.mem_append_right _ (List.mem_of_getElem? (i := 956) (by decide +kernel)), rfl⟩⟩
set_option maxRecDepth 20000 in
theorem lc_L_128 : FLC RL 128 yX8_asked cX8_asked 1 (some .int) 0 := ⟨Or.inl ⟨List.mem_append_right _ (List.mem_of_getElem? (i := 640) (by decide +kernel)), rfl⟩, ⟨List.mem_append_right _ (List.mem_of_getElem? (i := 643) (by decide +kernel)), rfl⟩, ⟨List.mem_append_right _ (List.mem_of_getElem? (i := 1) (by decide +kernel)), rfl⟩, ⟨⟨by decide +kernel, by decide +kernel⟩, by decide +kernel⟩⟩
set_option maxRecDepth 20000 in
theorem lv_X8_asked : FLV yX8_asked 9 := ⟨by decide, by decide +kernel, ⟨List.mem_append_right _ (List.mem_of_getElem? (i := 641) (by decide +kernel)), rfl⟩, ⟨List.mem_append_right _ (List.mem_of_getElem? (i := 642) (by decide +kernel)), rfl⟩⟩
set_option maxRecDepth 20000 in
theorem lc_L_131 : FLC RL 131 yX9_asked cX9_asked 1 (some .int) 0 := ⟨Or.inl ⟨List.mem_append_right _ (List.mem_of_getElem? (i := 958) (by decide +kernel)), rfl⟩, ⟨List.mem_append_right _ (List.mem_of_getElem? (i := 961) (by decide +kernel)), rfl⟩, ⟨List.mem_append_right _ (List.mem_of_getElem? (i := 7) (by decide +kernel)), rfl⟩, ⟨⟨by decide +kernel, by decide +kernel⟩, by decide +kernel⟩⟩
set_option maxRecDepth 20000 in
theorem lv_X9_asked : FLV yX9_asked 10 := ⟨by decide, by decide +kernel, ⟨List.mem_append_right _ (List.mem_of_getElem? (i := 959) (by decide +kernel)), rfl⟩, ⟨List.mem_append_right _ (List.mem_of_getElem? (i := 960) (by decide +kernel)), rfl⟩⟩
set_option maxRecDepth 20000 in
theorem lc_L_132 : FLC RL 132 yX8_count cX8_count 2 (some .int) 1 := ⟨Or.inl ⟨List.mem_append_right _ (List.mem_of_getElem? (i := 644) (by decide +kernel)), rfl⟩, ⟨List.mem_append_right _ (List.mem_of_getElem? (i := 647) (by decide +kernel)), rfl⟩, ⟨List.mem_append_right _ (List.mem_of_getElem? (i := 1) (by decide +kernel)), rfl⟩, ⟨⟨by decide +kernel, by decide +kernel⟩, by decide +kernel⟩⟩
set_option maxRecDepth 20000 in
theorem lv_X8_count : FLV yX8_count 9 := ⟨by decide, by decide +kernel, ⟨List.mem_append_right _ (List.mem_of_getElem? (i := 645) (by decide +kernel)), rfl⟩, ⟨List.mem_append_right _ (List.mem_of_getElem? (i := 646) (by decide +kernel)), rfl⟩⟩
set_option maxRecDepth 20000 in
theorem lc_L_135 : FLC RL 135 yX9_count cX9_count 2 (some .int) 1 := ⟨Or.inl ⟨List.mem_append_right _ (List.mem_of_getElem? (i := 962) (by decide +kernel)), rfl⟩, ⟨List.mem_append_right _ (List.mem_of_getElem? (i := 965) (by decide +kernel)), rfl⟩, ⟨List.mem_append_right _ (List.mem_of_getElem? (i := 7) (by decide +kernel)), rfl⟩, ⟨⟨by decide +kernel, by decide +kernel⟩, by decide +kernel⟩⟩
set_option maxRecDepth 20000 in
theorem lv_X9_count : FLV yX9_count 10 := ⟨by decide, by decide +kernel, ⟨List.mem_append_right _ (List.mem_of_getElem? (i := 963) (by decide +kernel)), rfl⟩, ⟨List.mem_append_right _ (List.mem_of_getElem? (i := 964) (by decide +kernel)), rfl⟩⟩
set_option maxRecDepth 20000 in
theorem lc_L_136 : FLC RL 136 yX8_finding cX8_finding 1 (some .int) 0 := ⟨Or.inl ⟨List.mem_append_right _ (List.mem_of_getElem? (i := 648) (by decide +kernel)), rfl⟩, ⟨List.mem_append_right _ (List.mem_of_getElem? (i := 651) (by decide +kernel)), rfl⟩, ⟨List.mem_append_right _ (List.mem_of_getElem? (i := 1) (by decide +kernel)), rfl⟩, ⟨⟨by decide +kernel, by decide +kernel⟩, by decide +kernel⟩⟩
set_option maxRecDepth 20000 in
theorem lv_X8_finding : FLV yX8_finding 9 := ⟨by decide, by decide +kernel, ⟨List.mem_append_right _ (List.mem_of_getElem? (i := 649) (by decide +kernel)), rfl⟩, ⟨List.mem_append_right _ (List.mem_of_getElem? (i := 650) (by decide +kernel)), rfl⟩⟩
set_option maxRecDepth 20000 in
theorem lc_L_139 : FLC RL 139 yX9_finding cX9_finding 1 (some .int) 0 := ⟨Or.inl ⟨List.mem_append_right _ (List.mem_of_getElem? (i := 966) (by decide +kernel)), rfl⟩, ⟨List.mem_append_right _ (List.mem_of_getElem? (i := 969) (by decide +kernel)), rfl⟩, ⟨List.mem_append_right _ (List.mem_of_getElem? (i := 7) (by decide +kernel)), rfl⟩, ⟨⟨by decide +kernel, by decide +kernel⟩, by decide +kernel⟩⟩
set_option maxRecDepth 20000 in
theorem lv_X9_finding : FLV yX9_finding 10 := ⟨by decide, by decide +kernel, ⟨List.mem_append_right _ (List.mem_of_getElem? (i := 967) (by decide +kernel)), rfl⟩, ⟨List.mem_append_right _ (List.mem_of_getElem? (i := 968) (by decide +kernel)), rfl⟩⟩
set_option maxRecDepth 20000 in
theorem lc_L_140 : FLC RL 140 yX8_findings cX8_findings 2 (some .int) 1 := ⟨Or.inl ⟨List.mem_append_right _ (List.mem_of_getElem? (i := 652) (by decide +kernel)), rfl⟩, ⟨List.mem_append_right _ (List.mem_of_getElem? (i := 655) (by decide +kernel)), rfl⟩, ⟨List.mem_append_right _ (List.mem_of_getElem? (i := 1) (by decide +kernel)), rfl⟩, ⟨⟨by decide +kernel, by decide +kernel⟩, by decide +kernel⟩⟩
set_option maxRecDepth 20000 in
theorem lv_X8_findings : FLV yX8_findings 9 := ⟨by decide, by decide +kernel, ⟨List.mem_append_right _ (List.mem_of_getElem? (i := 653) (by decide +kernel)), rfl⟩, ⟨List.mem_append_right _ (List.mem_of_getElem? (i := 654) (by decide +kernel)), rfl⟩⟩
set_option maxRecDepth 20000 in
theorem lc_L_143 : FLC RL 143 yX9_findings cX9_findings 2 (some .int) 1 := ⟨Or.inl ⟨List.mem_append_right _ (List.mem_of_getElem? (i := 970) (by decide +kernel)), rfl⟩, ⟨List.mem_append_right _ (List.mem_of_getElem? (i := 973) (by decide +kernel)), rfl⟩, ⟨List.mem_append_right _ (List.mem_of_getElem? (i := 7) (by decide +kernel)), rfl⟩, ⟨⟨by decide +kernel, by decide +kernel⟩, by decide +kernel⟩⟩
set_option maxRecDepth 20000 in
theorem lv_X9_findings : FLV yX9_findings 10 := ⟨by decide, by decide +kernel, ⟨List.mem_append_right _ (List.mem_of_getElem? (i := 971) (by decide +kernel)), rfl⟩, ⟨List.mem_append_right _ (List.mem_of_getElem? (i := 972) (by decide +kernel)), rfl⟩⟩
set_option maxRecDepth 20000 in
theorem lc_L_144 : FLC RL 144 yX8_digest cX8_digest 5 (some .long) 0 := ⟨Or.inl ⟨List.mem_append_right _ (List.mem_of_getElem? (i := 656) (by decide +kernel)), rfl⟩, ⟨List.mem_append_right _ (List.mem_of_getElem? (i := 659) (by decide +kernel)), rfl⟩, ⟨List.mem_append_right _ (List.mem_of_getElem? (i := 1) (by decide +kernel)), rfl⟩, ⟨⟨by decide +kernel, by decide +kernel⟩, by decide +kernel⟩⟩
set_option maxRecDepth 20000 in
theorem lv_X8_digest : FLV yX8_digest 9 := ⟨by decide, by decide +kernel, ⟨List.mem_append_right _ (List.mem_of_getElem? (i := 657) (by decide +kernel)), rfl⟩, ⟨List.mem_append_right _ (List.mem_of_getElem? (i := 658) (by decide +kernel)), rfl⟩⟩
set_option maxRecDepth 20000 in
theorem lc_L_148 : FLC RL 148 yX9_digest cX9_digest 5 (some .long) 0 := ⟨Or.inl ⟨List.mem_append_right _ (List.mem_of_getElem? (i := 974) (by decide +kernel)), rfl⟩, ⟨List.mem_append_right _ (List.mem_of_getElem? (i := 977) (by decide +kernel)), rfl⟩, ⟨List.mem_append_right _ (List.mem_of_getElem? (i := 7) (by decide +kernel)), rfl⟩, ⟨⟨by decide +kernel, by decide +kernel⟩, by decide +kernel⟩⟩
set_option maxRecDepth 20000 in
theorem lv_X9_digest : FLV yX9_digest 10 := ⟨by decide, by decide +kernel, ⟨List.mem_append_right _ (List.mem_of_getElem? (i := 975) (by decide +kernel)), rfl⟩, ⟨List.mem_append_right _ (List.mem_of_getElem? (i := 976) (by decide +kernel)), rfl⟩⟩
/-! by program: what the methods do, and that their bytecode does it -/
/-! L_law -/
noncomputable def f_L_law_18_b (z : Nat) (L : Nat) (xs : Nat → Int32) (p2 : Option Nm) (p1 : Option Nm) (p0 : Option Nm) (rec : Int32 → Hp → Option (Int32 × Hp)) (v3 : Int32) (g : Hp) : Option (Int32 × Hp) :=
  (alnS p0 L).bind fun x5 =>
  if (x5 - 6) < v3 then (some (1, g))
  else ((aldS p0 v3 L xs).bind fun x6 =>
    tsw (x6 &&& 31) [0, 1, 2, 3, 4, 5, 6, 7, 8, 9, 10, 11, 12, 13, 14, 15, 16, 17, 18, 19, 20, 21, 22, 23, 24, 25, 26, 27, 28, 29, 30, 31] [
      ((aldS p0 (v3 + 1) L xs).bind fun x7 =>
        (aldS p0 (v3 + 2) L xs).bind fun x8 =>
        (ick p1 9 (f_X8_rule z p1 x7 x8 g)).bind fun q9 =>
        (aldS p0 (v3 + 1) L xs).bind fun x10 =>
        (aldS p0 (v3 + 2) L xs).bind fun x11 =>
        (ick p2 10 (f_X9_rule z p2 x10 x11 q9.2)).bind fun q12 =>
        if q9.1 = q12.1 then (rec (v3 + 6) q12.2)
        else (some (0, q12.2))),
      ((aldS p0 (v3 + 1) L xs).bind fun x13 =>
        (ick p1 9 (f_X8_station z p1 x13 g)).bind fun q14 =>
        (aldS p0 (v3 + 1) L xs).bind fun x15 =>
        (ick p2 10 (f_X9_station z p2 x15 q14.2)).bind fun q16 =>
        if q14.1 = q16.1 then (rec (v3 + 6) q16.2)
        else (some (0, q16.2))),
      ((aldS p0 (v3 + 1) L xs).bind fun x17 =>
        (ick p1 9 (f_X8_town z p1 x17 g)).bind fun q18 =>
        (aldS p0 (v3 + 1) L xs).bind fun x19 =>
        (ick p2 10 (f_X9_town z p2 x19 q18.2)).bind fun q20 =>
        if q18.1 = q20.1 then (rec (v3 + 6) q20.2)
        else (some (0, q20.2))),
      ((aldS p0 (v3 + 1) L xs).bind fun x21 =>
        (aldS p0 (v3 + 2) L xs).bind fun x22 =>
        ((if x22 = 0 then (some (0))
          else (some (1))) : Option (Int32)).bind fun q23 =>
        (ick p1 9 (f_X8_deaf z p1 x21 q23 g)).bind fun q24 =>
        (aldS p0 (v3 + 1) L xs).bind fun x25 =>
        (aldS p0 (v3 + 2) L xs).bind fun x26 =>
        ((if x26 = 0 then (some (0))
          else (some (1))) : Option (Int32)).bind fun q27 =>
        (ick p2 10 (f_X9_deaf z p2 x25 q27 q24.2)).bind fun q28 =>
        if q24.1 = q28.1 then (rec (v3 + 6) q28.2)
        else (some (0, q28.2))),
      ((aldS p0 (v3 + 1) L xs).bind fun x29 =>
        (aldS p0 (v3 + 2) L xs).bind fun x30 =>
        (ick p1 9 (f_X8_travel z p1 x29 x30 g)).bind fun q31 =>
        (aldS p0 (v3 + 1) L xs).bind fun x32 =>
        (aldS p0 (v3 + 2) L xs).bind fun x33 =>
        (ick p2 10 (f_X9_travel z p2 x32 x33 q31.2)).bind fun q34 =>
        if q31.1 = q34.1 then (rec (v3 + 6) q34.2)
        else (some (0, q34.2))),
      ((aldS p0 (v3 + 1) L xs).bind fun x35 =>
        (ick p1 9 (f_X8_later z p1 x35 g)).bind fun q36 =>
        (aldS p0 (v3 + 1) L xs).bind fun x37 =>
        (ick p2 10 (f_X9_later z p2 x37 q36.2)).bind fun q38 =>
        if q36.1 = q38.1 then (rec (v3 + 6) q38.2)
        else (some (0, q38.2))),
      ((aldS p0 (v3 + 1) L xs).bind fun x39 =>
        (aldS p0 (v3 + 2) L xs).bind fun x40 =>
        (ick p1 9 (f_X8_row z p1 x39 x40 g)).bind fun q41 =>
        (aldS p0 (v3 + 1) L xs).bind fun x42 =>
        (aldS p0 (v3 + 2) L xs).bind fun x43 =>
        (ick p2 10 (f_X9_row z p2 x42 x43 q41.2)).bind fun q44 =>
        if q41.1 = q44.1 then (rec (v3 + 6) q44.2)
        else (some (0, q44.2))),
      ((aldS p0 (v3 + 1) L xs).bind fun x45 =>
        (aldS p0 (v3 + 2) L xs).bind fun x46 =>
        (aldS p0 (v3 + 3) L xs).bind fun x47 =>
        (ick p1 9 (f_X8_lay z p1 x45 x46 x47 g)).bind fun q48 =>
        (aldS p0 (v3 + 1) L xs).bind fun x49 =>
        (aldS p0 (v3 + 2) L xs).bind fun x50 =>
        (aldS p0 (v3 + 3) L xs).bind fun x51 =>
        (ick p2 10 (f_X9_lay z p2 x49 x50 x51 q48.2)).bind fun q52 =>
        if q48.1 = q52.1 then (rec (v3 + 6) q52.2)
        else (some (0, q52.2))),
      ((aldS p0 (v3 + 1) L xs).bind fun x53 =>
        (ick p1 9 (f_X8_tear z p1 x53 g)).bind fun q54 =>
        (aldS p0 (v3 + 1) L xs).bind fun x55 =>
        (ick p2 10 (f_X9_tear z p2 x55 q54.2)).bind fun q56 =>
        if q54.1 = q56.1 then (rec (v3 + 6) q56.2)
        else (some (0, q56.2))),
      ((aldS p0 (v3 + 1) L xs).bind fun x57 =>
        (aldS p0 (v3 + 2) L xs).bind fun x58 =>
        (aldS p0 (v3 + 3) L xs).bind fun x59 =>
        (aldS p0 (v3 + 4) L xs).bind fun x60 =>
        (aldS p0 (v3 + 5) L xs).bind fun x61 =>
        (ick p1 9 (f_X8_copy z p1 x57 x58 x59 x60 x61 g)).bind fun q62 =>
        (aldS p0 (v3 + 1) L xs).bind fun x63 =>
        (aldS p0 (v3 + 2) L xs).bind fun x64 =>
        (aldS p0 (v3 + 3) L xs).bind fun x65 =>
        (aldS p0 (v3 + 4) L xs).bind fun x66 =>
        (aldS p0 (v3 + 5) L xs).bind fun x67 =>
        (ick p2 10 (f_X9_copy z p2 x63 x64 x65 x66 x67 q62.2)).bind fun q68 =>
        if q62.1 = q68.1 then (rec (v3 + 6) q68.2)
        else (some (0, q68.2))),
      ((aldS p0 (v3 + 1) L xs).bind fun x69 =>
        (ick p1 9 (f_X8_mean z p1 x69 g)).bind fun q70 =>
        (aldS p0 (v3 + 1) L xs).bind fun x71 =>
        (ick p2 10 (f_X9_mean z p2 x71 q70.2)).bind fun q72 =>
        if q70.1 = q72.1 then (rec (v3 + 6) q72.2)
        else (some (0, q72.2))),
      ((aldS p0 (v3 + 1) L xs).bind fun x73 =>
        (aldS p0 (v3 + 2) L xs).bind fun x74 =>
        (aldS p0 (v3 + 3) L xs).bind fun x75 =>
        (aldS p0 (v3 + 4) L xs).bind fun x76 =>
        (aldS p0 (v3 + 5) L xs).bind fun x77 =>
        (ick p1 9 (f_X8_first z p1 x73 x74 x75 x76 x77 g)).bind fun q78 =>
        (aldS p0 (v3 + 1) L xs).bind fun x79 =>
        (aldS p0 (v3 + 2) L xs).bind fun x80 =>
        (aldS p0 (v3 + 3) L xs).bind fun x81 =>
        (aldS p0 (v3 + 4) L xs).bind fun x82 =>
        (aldS p0 (v3 + 5) L xs).bind fun x83 =>
        (ick p2 10 (f_X9_first z p2 x79 x80 x81 x82 x83 q78.2)).bind fun q84 =>
        if q78.1 = q84.1 then (rec (v3 + 6) q84.2)
        else (some (0, q84.2))),
      ((aldS p0 (v3 + 1) L xs).bind fun x85 =>
        (aldS p0 (v3 + 2) L xs).bind fun x86 =>
        (aldS p0 (v3 + 3) L xs).bind fun x87 =>
        (ick p1 9 (f_X8_pick z p1 x85 x86 x87 g)).bind fun q88 =>
        (aldS p0 (v3 + 1) L xs).bind fun x89 =>
        (aldS p0 (v3 + 2) L xs).bind fun x90 =>
        (aldS p0 (v3 + 3) L xs).bind fun x91 =>
        (ick p2 10 (f_X9_pick z p2 x89 x90 x91 q88.2)).bind fun q92 =>
        if q88.1 = q92.1 then (rec (v3 + 6) q92.2)
        else (some (0, q92.2))),
      ((aldS p0 (v3 + 1) L xs).bind fun x93 =>
        (aldS p0 (v3 + 2) L xs).bind fun x94 =>
        (ick p1 9 (f_X8_told z p1 x93 x94 g)).bind fun q95 =>
        (aldS p0 (v3 + 1) L xs).bind fun x96 =>
        (aldS p0 (v3 + 2) L xs).bind fun x97 =>
        (ick p2 10 (f_X9_told z p2 x96 x97 q95.2)).bind fun q98 =>
        if q95.1 = q98.1 then (rec (v3 + 6) q98.2)
        else (some (0, q98.2))),
      ((aldS p0 (v3 + 1) L xs).bind fun x99 =>
        (aldS p0 (v3 + 2) L xs).bind fun x100 =>
        (ick p1 9 (f_X8_mark z p1 x99 x100 g)).bind fun q101 =>
        (aldS p0 (v3 + 1) L xs).bind fun x102 =>
        (aldS p0 (v3 + 2) L xs).bind fun x103 =>
        (ick p2 10 (f_X9_mark z p2 x102 x103 q101.2)).bind fun q104 =>
        if q101.1 = q104.1 then (rec (v3 + 6) q104.2)
        else (some (0, q104.2))),
      ((aldS p0 (v3 + 1) L xs).bind fun x105 =>
        (aldS p0 (v3 + 2) L xs).bind fun x106 =>
        (ick p1 9 (f_X8_quake z p1 x105 x106 g)).bind fun q107 =>
        (aldS p0 (v3 + 1) L xs).bind fun x108 =>
        (aldS p0 (v3 + 2) L xs).bind fun x109 =>
        (ick p2 10 (f_X9_quake z p2 x108 x109 q107.2)).bind fun q110 =>
        if q107.1 = q110.1 then (rec (v3 + 6) q110.2)
        else (some (0, q110.2))),
      ((aldS p0 (v3 + 1) L xs).bind fun x111 =>
        (aldS p0 (v3 + 2) L xs).bind fun x112 =>
        (ick p1 9 (f_X8_cell z p1 x111 x112 g)).bind fun q113 =>
        (aldS p0 (v3 + 1) L xs).bind fun x114 =>
        (aldS p0 (v3 + 2) L xs).bind fun x115 =>
        (ick p2 10 (f_X9_cell z p2 x114 x115 q113.2)).bind fun q116 =>
        if q113.1 = q116.1 then (rec (v3 + 6) q116.2)
        else (some (0, q116.2))),
      ((aldS p0 (v3 + 1) L xs).bind fun x117 =>
        (aldS p0 (v3 + 2) L xs).bind fun x118 =>
        (aldS p0 (v3 + 3) L xs).bind fun x119 =>
        ((if x119 = 0 then (some (0))
          else (some (1))) : Option (Int32)).bind fun q120 =>
        (ick p1 9 (f_X8_time z p1 x117 x118 q120 g)).bind fun q121 =>
        (aldS p0 (v3 + 1) L xs).bind fun x122 =>
        (aldS p0 (v3 + 2) L xs).bind fun x123 =>
        (aldS p0 (v3 + 3) L xs).bind fun x124 =>
        ((if x124 = 0 then (some (0))
          else (some (1))) : Option (Int32)).bind fun q125 =>
        (ick p2 10 (f_X9_time z p2 x122 x123 q125 q121.2)).bind fun q126 =>
        if q121.1 = q126.1 then (rec (v3 + 6) q126.2)
        else (some (0, q126.2))),
      ((aldS p0 (v3 + 1) L xs).bind fun x127 =>
        (aldS p0 (v3 + 2) L xs).bind fun x128 =>
        (aldS p0 (v3 + 3) L xs).bind fun x129 =>
        (ick p1 9 (f_X8_holds z p1 x127 x128 x129 g)).bind fun q130 =>
        (aldS p0 (v3 + 1) L xs).bind fun x131 =>
        (aldS p0 (v3 + 2) L xs).bind fun x132 =>
        (aldS p0 (v3 + 3) L xs).bind fun x133 =>
        (ick p2 10 (f_X9_holds z p2 x131 x132 x133 q130.2)).bind fun q134 =>
        if q130.1 = q134.1 then (rec (v3 + 6) q134.2)
        else (some (0, q134.2))),
      ((aldS p0 (v3 + 1) L xs).bind fun x135 =>
        (aldS p0 (v3 + 2) L xs).bind fun x136 =>
        (ick p1 9 (f_X8_felt z p1 x135 x136 g)).bind fun q137 =>
        (aldS p0 (v3 + 1) L xs).bind fun x138 =>
        (aldS p0 (v3 + 2) L xs).bind fun x139 =>
        (ick p2 10 (f_X9_felt z p2 x138 x139 q137.2)).bind fun q140 =>
        if q137.1 = q140.1 then (rec (v3 + 6) q140.2)
        else (some (0, q140.2))),
      ((aldS p0 (v3 + 1) L xs).bind fun x141 =>
        (aldS p0 (v3 + 2) L xs).bind fun x142 =>
        (ick p1 9 (f_X8_level z p1 x141 x142 g)).bind fun q143 =>
        (aldS p0 (v3 + 1) L xs).bind fun x144 =>
        (aldS p0 (v3 + 2) L xs).bind fun x145 =>
        (ick p2 10 (f_X9_level z p2 x144 x145 q143.2)).bind fun q146 =>
        if q143.1 = q146.1 then (rec (v3 + 6) q146.2)
        else (some (0, q146.2))),
      ((ick p1 9 (f_X8_warn z p1 g)).bind fun q147 =>
        (ick p2 10 (f_X9_warn z p2 q147.2)).bind fun q148 =>
        if q147.1 = q148.1 then (rec (v3 + 6) q148.2)
        else (some (0, q148.2))),
      ((aldS p0 (v3 + 1) L xs).bind fun x149 =>
        (aldS p0 (v3 + 2) L xs).bind fun x150 =>
        (ick p1 9 (f_X8_drill z p1 x149 x150 g)).bind fun q151 =>
        (aldS p0 (v3 + 1) L xs).bind fun x152 =>
        (aldS p0 (v3 + 2) L xs).bind fun x153 =>
        (ick p2 10 (f_X9_drill z p2 x152 x153 q151.2)).bind fun q154 =>
        if q151.1 = q154.1 then (rec (v3 + 6) q154.2)
        else (some (0, q154.2))),
      ((aldS p0 (v3 + 1) L xs).bind fun x155 =>
        (aldS p0 (v3 + 2) L xs).bind fun x156 =>
        (ick p1 9 (f_X8_message z p1 x155 x156 g)).bind fun q157 =>
        (aldS p0 (v3 + 1) L xs).bind fun x158 =>
        (aldS p0 (v3 + 2) L xs).bind fun x159 =>
        (ick p2 10 (f_X9_message z p2 x158 x159 q157.2)).bind fun q160 =>
        if q157.1 = q160.1 then (rec (v3 + 6) q160.2)
        else (some (0, q160.2))),
      ((aldS p0 (v3 + 1) L xs).bind fun x161 =>
        (aldS p0 (v3 + 2) L xs).bind fun x162 =>
        (ick p1 9 (f_X8_alarm z p1 x161 x162 g)).bind fun q163 =>
        (aldS p0 (v3 + 1) L xs).bind fun x164 =>
        (aldS p0 (v3 + 2) L xs).bind fun x165 =>
        (ick p2 10 (f_X9_alarm z p2 x164 x165 q163.2)).bind fun q166 =>
        if q163.1 = q166.1 then (rec (v3 + 6) q166.2)
        else (some (0, q166.2))),
      ((aldS p0 (v3 + 1) L xs).bind fun x167 =>
        (aldS p0 (v3 + 2) L xs).bind fun x168 =>
        (ick p1 9 (f_X8_late z p1 x167 x168 g)).bind fun q169 =>
        (aldS p0 (v3 + 1) L xs).bind fun x170 =>
        (aldS p0 (v3 + 2) L xs).bind fun x171 =>
        (ick p2 10 (f_X9_late z p2 x170 x171 q169.2)).bind fun q172 =>
        if q169.1 = q172.1 then (rec (v3 + 6) q172.2)
        else (some (0, q172.2))),
      ((aldS p0 (v3 + 1) L xs).bind fun x173 =>
        (aldS p0 (v3 + 2) L xs).bind fun x174 =>
        (ick p1 9 (f_X8_left z p1 x173 x174 g)).bind fun q175 =>
        (aldS p0 (v3 + 1) L xs).bind fun x176 =>
        (aldS p0 (v3 + 2) L xs).bind fun x177 =>
        (ick p2 10 (f_X9_left z p2 x176 x177 q175.2)).bind fun q178 =>
        if q175.1 = q178.1 then (rec (v3 + 6) q178.2)
        else (some (0, q178.2))),
      ((ick p1 9 (f_X8_asked z p1 g)).bind fun q179 =>
        (ick p2 10 (f_X9_asked z p2 q179.2)).bind fun q180 =>
        if q179.1 = q180.1 then (rec (v3 + 6) q180.2)
        else (some (0, q180.2))),
      ((aldS p0 (v3 + 1) L xs).bind fun x181 =>
        (ick p1 9 (f_X8_count z p1 x181 g)).bind fun q182 =>
        (aldS p0 (v3 + 1) L xs).bind fun x183 =>
        (ick p2 10 (f_X9_count z p2 x183 q182.2)).bind fun q184 =>
        if q182.1 = q184.1 then (rec (v3 + 6) q184.2)
        else (some (0, q184.2))),
      ((ick p1 9 (f_X8_finding z p1 g)).bind fun q185 =>
        (ick p2 10 (f_X9_finding z p2 q185.2)).bind fun q186 =>
        if q185.1 = q186.1 then (rec (v3 + 6) q186.2)
        else (some (0, q186.2))),
      ((aldS p0 (v3 + 1) L xs).bind fun x187 =>
        (ick p1 9 (f_X8_findings z p1 x187 g)).bind fun q188 =>
        (aldS p0 (v3 + 1) L xs).bind fun x189 =>
        (ick p2 10 (f_X9_findings z p2 x189 q188.2)).bind fun q190 =>
        if q188.1 = q190.1 then (rec (v3 + 6) q190.2)
        else (some (0, q190.2))),
      ((ick p1 9 (f_X8_digest z p1 g)).bind fun q191 =>
        (ick p2 10 (f_X9_digest z p2 q191.2)).bind fun q192 =>
        if (lg_cmp q191.1 q192.1) = 0 then (rec (v3 + 6) q192.2)
        else (some (0, q192.2)))]
      (rec (v3 + 6) g))
noncomputable def f_L_law_18_L (z : Nat) (L : Nat) (xs : Nat → Int32) (p2 : Option Nm) (p1 : Option Nm) (p0 : Option Nm) : Nat → Int32 → Hp → Option (Int32 × Hp)
  | 0, _, _ => none
  | n + 1, v3, g => f_L_law_18_b z L xs p2 p1 p0 (f_L_law_18_L z L xs p2 p1 p0 n) v3 g
noncomputable def f_L_law (z : Nat) (L : Nat) (xs : Nat → Int32) (a0 : Option Nm) (g : Hp) : Option (Int32 × Hp) :=
  (mkO (9, 0) 9 g).bind fun q1 =>
  (nnl q1.1 (f_X8_init z q1.1 q1.2)).bind fun q2 =>
  (mkO (10, 0) 10 q2.2).bind fun q3 =>
  (nnl q3.1 (f_X9_init z q3.1 q3.2)).bind fun q4 =>
  f_L_law_18_L z L xs q3.1 q1.1 a0 z 0 q4.2
set_option maxRecDepth 20000 in
theorem b_L_law_18 {X : Xt Int32} {L : Nat} {xs : Nat → Int32} (hX : IsL X L xs) (z : Nat) (p2 : Option Nm) (p1 : Option Nm) (p0 : Option Nm) (rec : Int32 → Hp → Option (Int32 × Hp)) (hr : ∀ (v3 : Int32) (g : Hp), J yL_law cL_law 4 (some .boolean) 12 458 X g 18 [(3, sI v3), (2, sR p2), (1, sR p1), (0, sR p0)] [] (rec v3 g)) (v3 : Int32) (g : Hp) : J yL_law cL_law 4 (some .boolean) 12 458 X g 18 [(3, sI v3), (2, sR p2), (1, sR p1), (0, sR p0)] [] (f_L_law_18_b z L xs p2 p1 p0 rec v3 g) := by
  unfold f_L_law_18_b
  refine j_iload_n (pc := 18) 0 dL_law_18 rfl rfl ?_
  refine j_aload_n (pc := 19) 3 dL_law_19 rfl rfl ?_
  refine j_alnS (pc := 20) dL_law_20 hX rfl (fun x5 => ?_)
  refine j_bipush (pc := 21) (v := 6) dL_law_21 (by decide) ?_
  refine j_isub (pc := 23) dL_law_23 ?_
  refine j_icmp_gt (pc := 24) (tgt := 1221) dL_law_24 (by decide) rfl (fun hc => ?_) (fun hc => ?_)
  · refine j_iconst (pc := 1221) (v := 1) dL_law_1221 (by decide) ?_
    exact j_lawret dL_law_1222 hX rfl
  · refine j_aload_n (pc := 27) 3 dL_law_27 rfl rfl ?_
    refine j_iload_n (pc := 28) 0 dL_law_28 rfl rfl ?_
    refine j_aldS (pc := 29) dL_law_29 hX rfl (fun x6 => ?_)
    refine j_bipush (pc := 30) (v := 31) dL_law_30 (by decide) ?_
    refine j_iand (pc := 32) dL_law_32 ?_
    refine j_tsw (ts := [176, 209, 232, 255, 304, 337, 360, 393, 436, 459, 522, 545, 608, 651, 684, 717, 750, 783, 842, 885, 918, 951, 964, 997, 1030, 1063, 1096, 1129, 1142, 1165, 1178, 1201]) (td := 1215) dL_law_33 (by decide) (by decide) (by decide) (by decide) (by decide) rfl ?_ ⟨?_, ?_, ?_, ?_, ?_, ?_, ?_, ?_, ?_, ?_, ?_, ?_, ?_, ?_, ?_, ?_, ?_, ?_, ?_, ?_, ?_, ?_, ?_, ?_, ?_, ?_, ?_, ?_, ?_, ?_, ?_, ?_, trivial⟩
    · refine j_iinc (pc := 1215) (v := (v3 + 6)) (lv' := [(3, sI (v3 + 6)), (2, sR p2), (1, sR p1), (0, sR p0)]) 0 dL_law_1215 rfl rfl (by decide) rfl ?_
      refine j_goto (pc := 1218) (tgt := 18) dL_law_1218 (by decide) ?_
      exact hr (v3 + 6) g
    · refine j_aload_n (pc := 176) 2 dL_law_176 rfl rfl ?_
      refine j_aload_n (pc := 177) 3 dL_law_177 rfl rfl ?_
      refine j_iload_n (pc := 178) 0 dL_law_178 rfl rfl ?_
      refine j_iconst (pc := 179) (v := 1) dL_law_179 (by decide) ?_
      refine j_iadd (pc := 180) dL_law_180 ?_
      refine j_aldS (pc := 181) dL_law_181 hX rfl (fun x7 => ?_)
      refine j_aload_n (pc := 182) 3 dL_law_182 rfl rfl ?_
      refine j_iload_n (pc := 183) 0 dL_law_183 rfl rfl ?_
      refine j_iconst (pc := 184) (v := 2) dL_law_184 (by decide) ?_
      refine j_iadd (pc := 185) dL_law_185 ?_
      refine j_aldS (pc := 186) dL_law_186 hX rfl (fun x8 => ?_)
      refine j_callV (pc := 187) (own := RL) [sI x7, sI x8] [] dL_law_187 lc_L_13 lv_X8_rule rfl (m_X8_rule z p1 x7 x8 g) ⟨⟨Nat.le_of_ble_eq_true rfl, Nat.le_of_ble_eq_true rfl⟩, Nat.le_of_ble_eq_true rfl⟩ rfl rfl (fun q9r q9g => ?_)
      refine j_aload_n (pc := 190) 1 dL_law_190 rfl rfl ?_
      refine j_aload_n (pc := 191) 3 dL_law_191 rfl rfl ?_
      refine j_iload_n (pc := 192) 0 dL_law_192 rfl rfl ?_
      refine j_iconst (pc := 193) (v := 1) dL_law_193 (by decide) ?_
      refine j_iadd (pc := 194) dL_law_194 ?_
      refine j_aldS (pc := 195) dL_law_195 hX rfl (fun x10 => ?_)
      refine j_aload_n (pc := 196) 3 dL_law_196 rfl rfl ?_
      refine j_iload_n (pc := 197) 0 dL_law_197 rfl rfl ?_
      refine j_iconst (pc := 198) (v := 2) dL_law_198 (by decide) ?_
      refine j_iadd (pc := 199) dL_law_199 ?_
      refine j_aldS (pc := 200) dL_law_200 hX rfl (fun x11 => ?_)
      refine j_callV (pc := 201) (own := RL) [sI x10, sI x11] [sI q9r] dL_law_201 lc_L_17 lv_X9_rule rfl (m_X9_rule z p2 x10 x11 q9g) ⟨⟨Nat.le_of_ble_eq_true rfl, Nat.le_of_ble_eq_true rfl⟩, Nat.le_of_ble_eq_true rfl⟩ rfl rfl (fun q12r q12g => ?_)
      refine j_icmp_eq (pc := 204) (tgt := 1215) dL_law_204 (by decide) rfl (fun hc => ?_) (fun hc => ?_)
      · refine j_iinc (pc := 1215) (v := (v3 + 6)) (lv' := [(3, sI (v3 + 6)), (2, sR p2), (1, sR p1), (0, sR p0)]) 0 dL_law_1215 rfl rfl (by decide) rfl ?_
        refine j_goto (pc := 1218) (tgt := 18) dL_law_1218 (by decide) ?_
        exact hr (v3 + 6) q12g
      · refine j_iconst (pc := 207) (v := 0) dL_law_207 (by decide) ?_
        exact j_lawret dL_law_208 hX rfl
    · refine j_aload_n (pc := 209) 2 dL_law_209 rfl rfl ?_
      refine j_aload_n (pc := 210) 3 dL_law_210 rfl rfl ?_
      refine j_iload_n (pc := 211) 0 dL_law_211 rfl rfl ?_
      refine j_iconst (pc := 212) (v := 1) dL_law_212 (by decide) ?_
      refine j_iadd (pc := 213) dL_law_213 ?_
      refine j_aldS (pc := 214) dL_law_214 hX rfl (fun x13 => ?_)
      refine j_callV (pc := 215) (own := RL) [sI x13] [] dL_law_215 lc_L_18 lv_X8_station rfl (m_X8_station z p1 x13 g) ⟨⟨Nat.le_of_ble_eq_true rfl, Nat.le_of_ble_eq_true rfl⟩, Nat.le_of_ble_eq_true rfl⟩ rfl rfl (fun q14r q14g => ?_)
      refine j_aload_n (pc := 218) 1 dL_law_218 rfl rfl ?_
      refine j_aload_n (pc := 219) 3 dL_law_219 rfl rfl ?_
      refine j_iload_n (pc := 220) 0 dL_law_220 rfl rfl ?_
      refine j_iconst (pc := 221) (v := 1) dL_law_221 (by decide) ?_
      refine j_iadd (pc := 222) dL_law_222 ?_
      refine j_aldS (pc := 223) dL_law_223 hX rfl (fun x15 => ?_)
      refine j_callV (pc := 224) (own := RL) [sI x15] [sI q14r] dL_law_224 lc_L_22 lv_X9_station rfl (m_X9_station z p2 x15 q14g) ⟨⟨Nat.le_of_ble_eq_true rfl, Nat.le_of_ble_eq_true rfl⟩, Nat.le_of_ble_eq_true rfl⟩ rfl rfl (fun q16r q16g => ?_)
      refine j_icmp_eq (pc := 227) (tgt := 1215) dL_law_227 (by decide) rfl (fun hc => ?_) (fun hc => ?_)
      · refine j_iinc (pc := 1215) (v := (v3 + 6)) (lv' := [(3, sI (v3 + 6)), (2, sR p2), (1, sR p1), (0, sR p0)]) 0 dL_law_1215 rfl rfl (by decide) rfl ?_
        refine j_goto (pc := 1218) (tgt := 18) dL_law_1218 (by decide) ?_
        exact hr (v3 + 6) q16g
      · refine j_iconst (pc := 230) (v := 0) dL_law_230 (by decide) ?_
        exact j_lawret dL_law_231 hX rfl
    · refine j_aload_n (pc := 232) 2 dL_law_232 rfl rfl ?_
      refine j_aload_n (pc := 233) 3 dL_law_233 rfl rfl ?_
      refine j_iload_n (pc := 234) 0 dL_law_234 rfl rfl ?_
      refine j_iconst (pc := 235) (v := 1) dL_law_235 (by decide) ?_
      refine j_iadd (pc := 236) dL_law_236 ?_
      refine j_aldS (pc := 237) dL_law_237 hX rfl (fun x17 => ?_)
      refine j_callV (pc := 238) (own := RL) [sI x17] [] dL_law_238 lc_L_23 lv_X8_town rfl (m_X8_town z p1 x17 g) ⟨⟨Nat.le_of_ble_eq_true rfl, Nat.le_of_ble_eq_true rfl⟩, Nat.le_of_ble_eq_true rfl⟩ rfl rfl (fun q18r q18g => ?_)
      refine j_aload_n (pc := 241) 1 dL_law_241 rfl rfl ?_
      refine j_aload_n (pc := 242) 3 dL_law_242 rfl rfl ?_
      refine j_iload_n (pc := 243) 0 dL_law_243 rfl rfl ?_
      refine j_iconst (pc := 244) (v := 1) dL_law_244 (by decide) ?_
      refine j_iadd (pc := 245) dL_law_245 ?_
      refine j_aldS (pc := 246) dL_law_246 hX rfl (fun x19 => ?_)
      refine j_callV (pc := 247) (own := RL) [sI x19] [sI q18r] dL_law_247 lc_L_26 lv_X9_town rfl (m_X9_town z p2 x19 q18g) ⟨⟨Nat.le_of_ble_eq_true rfl, Nat.le_of_ble_eq_true rfl⟩, Nat.le_of_ble_eq_true rfl⟩ rfl rfl (fun q20r q20g => ?_)
      refine j_icmp_eq (pc := 250) (tgt := 1215) dL_law_250 (by decide) rfl (fun hc => ?_) (fun hc => ?_)
      · refine j_iinc (pc := 1215) (v := (v3 + 6)) (lv' := [(3, sI (v3 + 6)), (2, sR p2), (1, sR p1), (0, sR p0)]) 0 dL_law_1215 rfl rfl (by decide) rfl ?_
        refine j_goto (pc := 1218) (tgt := 18) dL_law_1218 (by decide) ?_
        exact hr (v3 + 6) q20g
      · refine j_iconst (pc := 253) (v := 0) dL_law_253 (by decide) ?_
        exact j_lawret dL_law_254 hX rfl
    · refine j_aload_n (pc := 255) 2 dL_law_255 rfl rfl ?_
      refine j_aload_n (pc := 256) 3 dL_law_256 rfl rfl ?_
      refine j_iload_n (pc := 257) 0 dL_law_257 rfl rfl ?_
      refine j_iconst (pc := 258) (v := 1) dL_law_258 (by decide) ?_
      refine j_iadd (pc := 259) dL_law_259 ?_
      refine j_aldS (pc := 260) dL_law_260 hX rfl (fun x21 => ?_)
      refine j_aload_n (pc := 261) 3 dL_law_261 rfl rfl ?_
      refine j_iload_n (pc := 262) 0 dL_law_262 rfl rfl ?_
      refine j_iconst (pc := 263) (v := 2) dL_law_263 (by decide) ?_
      refine j_iadd (pc := 264) dL_law_264 ?_
      refine j_aldS (pc := 265) dL_law_265 hX rfl (fun x22 => ?_)
      refine J.jn (σ := Int32) (fun q23 pr => J yL_law cL_law 4 (some .boolean) 12 458 X g 274 [(3, sI v3), (2, sR p2), (1, sR p1), (0, sR p0)] [sI q23, sI x21, sR p1] pr) (fun K274 hK274 => ?_) (fun q23 => ?_)
      · refine j_if_eq (pc := 266) (tgt := 273) dL_law_266 (by decide) bi (fun hc => ?_) (fun hc => ?_)
        · refine j_iconst (pc := 273) (v := 0) dL_law_273 (by decide) ?_
          exact hK274 (0)
        · refine j_iconst (pc := 269) (v := 1) dL_law_269 (by decide) ?_
          refine j_goto (pc := 270) (tgt := 274) dL_law_270 (by decide) ?_
          exact hK274 (1)
      · refine j_callV (pc := 274) (own := RL) [sI x21, sI q23] [] dL_law_274 lc_L_27 lv_X8_deaf rfl (m_X8_deaf z p1 x21 q23 g) ⟨⟨Nat.le_of_ble_eq_true rfl, Nat.le_of_ble_eq_true rfl⟩, Nat.le_of_ble_eq_true rfl⟩ rfl rfl (fun q24r q24g => ?_)
        refine j_aload_n (pc := 277) 1 dL_law_277 rfl rfl ?_
        refine j_aload_n (pc := 278) 3 dL_law_278 rfl rfl ?_
        refine j_iload_n (pc := 279) 0 dL_law_279 rfl rfl ?_
        refine j_iconst (pc := 280) (v := 1) dL_law_280 (by decide) ?_
        refine j_iadd (pc := 281) dL_law_281 ?_
        refine j_aldS (pc := 282) dL_law_282 hX rfl (fun x25 => ?_)
        refine j_aload_n (pc := 283) 3 dL_law_283 rfl rfl ?_
        refine j_iload_n (pc := 284) 0 dL_law_284 rfl rfl ?_
        refine j_iconst (pc := 285) (v := 2) dL_law_285 (by decide) ?_
        refine j_iadd (pc := 286) dL_law_286 ?_
        refine j_aldS (pc := 287) dL_law_287 hX rfl (fun x26 => ?_)
        refine J.jn (σ := Int32) (fun q27 pr => J yL_law cL_law 4 (some .boolean) 12 458 X q24g 296 [(3, sI v3), (2, sR p2), (1, sR p1), (0, sR p0)] [sI q27, sI x25, sR p2, sI q24r] pr) (fun K296 hK296 => ?_) (fun q27 => ?_)
        · refine j_if_eq (pc := 288) (tgt := 295) dL_law_288 (by decide) bi (fun hc => ?_) (fun hc => ?_)
          · refine j_iconst (pc := 295) (v := 0) dL_law_295 (by decide) ?_
            exact hK296 (0)
          · refine j_iconst (pc := 291) (v := 1) dL_law_291 (by decide) ?_
            refine j_goto (pc := 292) (tgt := 296) dL_law_292 (by decide) ?_
            exact hK296 (1)
        · refine j_callV (pc := 296) (own := RL) [sI x25, sI q27] [sI q24r] dL_law_296 lc_L_31 lv_X9_deaf rfl (m_X9_deaf z p2 x25 q27 q24g) ⟨⟨Nat.le_of_ble_eq_true rfl, Nat.le_of_ble_eq_true rfl⟩, Nat.le_of_ble_eq_true rfl⟩ rfl rfl (fun q28r q28g => ?_)
          refine j_icmp_eq (pc := 299) (tgt := 1215) dL_law_299 (by decide) rfl (fun hc => ?_) (fun hc => ?_)
          · refine j_iinc (pc := 1215) (v := (v3 + 6)) (lv' := [(3, sI (v3 + 6)), (2, sR p2), (1, sR p1), (0, sR p0)]) 0 dL_law_1215 rfl rfl (by decide) rfl ?_
            refine j_goto (pc := 1218) (tgt := 18) dL_law_1218 (by decide) ?_
            exact hr (v3 + 6) q28g
          · refine j_iconst (pc := 302) (v := 0) dL_law_302 (by decide) ?_
            exact j_lawret dL_law_303 hX rfl
    · refine j_aload_n (pc := 304) 2 dL_law_304 rfl rfl ?_
      refine j_aload_n (pc := 305) 3 dL_law_305 rfl rfl ?_
      refine j_iload_n (pc := 306) 0 dL_law_306 rfl rfl ?_
      refine j_iconst (pc := 307) (v := 1) dL_law_307 (by decide) ?_
      refine j_iadd (pc := 308) dL_law_308 ?_
      refine j_aldS (pc := 309) dL_law_309 hX rfl (fun x29 => ?_)
      refine j_aload_n (pc := 310) 3 dL_law_310 rfl rfl ?_
      refine j_iload_n (pc := 311) 0 dL_law_311 rfl rfl ?_
      refine j_iconst (pc := 312) (v := 2) dL_law_312 (by decide) ?_
      refine j_iadd (pc := 313) dL_law_313 ?_
      refine j_aldS (pc := 314) dL_law_314 hX rfl (fun x30 => ?_)
      refine j_callV (pc := 315) (own := RL) [sI x29, sI x30] [] dL_law_315 lc_L_32 lv_X8_travel rfl (m_X8_travel z p1 x29 x30 g) ⟨⟨Nat.le_of_ble_eq_true rfl, Nat.le_of_ble_eq_true rfl⟩, Nat.le_of_ble_eq_true rfl⟩ rfl rfl (fun q31r q31g => ?_)
      refine j_aload_n (pc := 318) 1 dL_law_318 rfl rfl ?_
      refine j_aload_n (pc := 319) 3 dL_law_319 rfl rfl ?_
      refine j_iload_n (pc := 320) 0 dL_law_320 rfl rfl ?_
      refine j_iconst (pc := 321) (v := 1) dL_law_321 (by decide) ?_
      refine j_iadd (pc := 322) dL_law_322 ?_
      refine j_aldS (pc := 323) dL_law_323 hX rfl (fun x32 => ?_)
      refine j_aload_n (pc := 324) 3 dL_law_324 rfl rfl ?_
      refine j_iload_n (pc := 325) 0 dL_law_325 rfl rfl ?_
      refine j_iconst (pc := 326) (v := 2) dL_law_326 (by decide) ?_
      refine j_iadd (pc := 327) dL_law_327 ?_
      refine j_aldS (pc := 328) dL_law_328 hX rfl (fun x33 => ?_)
      refine j_callV (pc := 329) (own := RL) [sI x32, sI x33] [sI q31r] dL_law_329 lc_L_35 lv_X9_travel rfl (m_X9_travel z p2 x32 x33 q31g) ⟨⟨Nat.le_of_ble_eq_true rfl, Nat.le_of_ble_eq_true rfl⟩, Nat.le_of_ble_eq_true rfl⟩ rfl rfl (fun q34r q34g => ?_)
      refine j_icmp_eq (pc := 332) (tgt := 1215) dL_law_332 (by decide) rfl (fun hc => ?_) (fun hc => ?_)
      · refine j_iinc (pc := 1215) (v := (v3 + 6)) (lv' := [(3, sI (v3 + 6)), (2, sR p2), (1, sR p1), (0, sR p0)]) 0 dL_law_1215 rfl rfl (by decide) rfl ?_
        refine j_goto (pc := 1218) (tgt := 18) dL_law_1218 (by decide) ?_
        exact hr (v3 + 6) q34g
      · refine j_iconst (pc := 335) (v := 0) dL_law_335 (by decide) ?_
        exact j_lawret dL_law_336 hX rfl
    · refine j_aload_n (pc := 337) 2 dL_law_337 rfl rfl ?_
      refine j_aload_n (pc := 338) 3 dL_law_338 rfl rfl ?_
      refine j_iload_n (pc := 339) 0 dL_law_339 rfl rfl ?_
      refine j_iconst (pc := 340) (v := 1) dL_law_340 (by decide) ?_
      refine j_iadd (pc := 341) dL_law_341 ?_
      refine j_aldS (pc := 342) dL_law_342 hX rfl (fun x35 => ?_)
      refine j_callV (pc := 343) (own := RL) [sI x35] [] dL_law_343 lc_L_36 lv_X8_later rfl (m_X8_later z p1 x35 g) ⟨⟨Nat.le_of_ble_eq_true rfl, Nat.le_of_ble_eq_true rfl⟩, Nat.le_of_ble_eq_true rfl⟩ rfl rfl (fun q36r q36g => ?_)
      refine j_aload_n (pc := 346) 1 dL_law_346 rfl rfl ?_
      refine j_aload_n (pc := 347) 3 dL_law_347 rfl rfl ?_
      refine j_iload_n (pc := 348) 0 dL_law_348 rfl rfl ?_
      refine j_iconst (pc := 349) (v := 1) dL_law_349 (by decide) ?_
      refine j_iadd (pc := 350) dL_law_350 ?_
      refine j_aldS (pc := 351) dL_law_351 hX rfl (fun x37 => ?_)
      refine j_callV (pc := 352) (own := RL) [sI x37] [sI q36r] dL_law_352 lc_L_39 lv_X9_later rfl (m_X9_later z p2 x37 q36g) ⟨⟨Nat.le_of_ble_eq_true rfl, Nat.le_of_ble_eq_true rfl⟩, Nat.le_of_ble_eq_true rfl⟩ rfl rfl (fun q38r q38g => ?_)
      refine j_icmp_eq (pc := 355) (tgt := 1215) dL_law_355 (by decide) rfl (fun hc => ?_) (fun hc => ?_)
      · refine j_iinc (pc := 1215) (v := (v3 + 6)) (lv' := [(3, sI (v3 + 6)), (2, sR p2), (1, sR p1), (0, sR p0)]) 0 dL_law_1215 rfl rfl (by decide) rfl ?_
        refine j_goto (pc := 1218) (tgt := 18) dL_law_1218 (by decide) ?_
        exact hr (v3 + 6) q38g
      · refine j_iconst (pc := 358) (v := 0) dL_law_358 (by decide) ?_
        exact j_lawret dL_law_359 hX rfl
    · refine j_aload_n (pc := 360) 2 dL_law_360 rfl rfl ?_
      refine j_aload_n (pc := 361) 3 dL_law_361 rfl rfl ?_
      refine j_iload_n (pc := 362) 0 dL_law_362 rfl rfl ?_
      refine j_iconst (pc := 363) (v := 1) dL_law_363 (by decide) ?_
      refine j_iadd (pc := 364) dL_law_364 ?_
      refine j_aldS (pc := 365) dL_law_365 hX rfl (fun x39 => ?_)
      refine j_aload_n (pc := 366) 3 dL_law_366 rfl rfl ?_
      refine j_iload_n (pc := 367) 0 dL_law_367 rfl rfl ?_
      refine j_iconst (pc := 368) (v := 2) dL_law_368 (by decide) ?_
      refine j_iadd (pc := 369) dL_law_369 ?_
      refine j_aldS (pc := 370) dL_law_370 hX rfl (fun x40 => ?_)
      refine j_callV (pc := 371) (own := RL) [sI x39, sI x40] [] dL_law_371 lc_L_40 lv_X8_row rfl (m_X8_row z p1 x39 x40 g) ⟨⟨Nat.le_of_ble_eq_true rfl, Nat.le_of_ble_eq_true rfl⟩, Nat.le_of_ble_eq_true rfl⟩ rfl rfl (fun q41r q41g => ?_)
      refine j_aload_n (pc := 374) 1 dL_law_374 rfl rfl ?_
      refine j_aload_n (pc := 375) 3 dL_law_375 rfl rfl ?_
      refine j_iload_n (pc := 376) 0 dL_law_376 rfl rfl ?_
      refine j_iconst (pc := 377) (v := 1) dL_law_377 (by decide) ?_
      refine j_iadd (pc := 378) dL_law_378 ?_
      refine j_aldS (pc := 379) dL_law_379 hX rfl (fun x42 => ?_)
      refine j_aload_n (pc := 380) 3 dL_law_380 rfl rfl ?_
      refine j_iload_n (pc := 381) 0 dL_law_381 rfl rfl ?_
      refine j_iconst (pc := 382) (v := 2) dL_law_382 (by decide) ?_
      refine j_iadd (pc := 383) dL_law_383 ?_
      refine j_aldS (pc := 384) dL_law_384 hX rfl (fun x43 => ?_)
      refine j_callV (pc := 385) (own := RL) [sI x42, sI x43] [sI q41r] dL_law_385 lc_L_43 lv_X9_row rfl (m_X9_row z p2 x42 x43 q41g) ⟨⟨Nat.le_of_ble_eq_true rfl, Nat.le_of_ble_eq_true rfl⟩, Nat.le_of_ble_eq_true rfl⟩ rfl rfl (fun q44r q44g => ?_)
      refine j_icmp_eq (pc := 388) (tgt := 1215) dL_law_388 (by decide) rfl (fun hc => ?_) (fun hc => ?_)
      · refine j_iinc (pc := 1215) (v := (v3 + 6)) (lv' := [(3, sI (v3 + 6)), (2, sR p2), (1, sR p1), (0, sR p0)]) 0 dL_law_1215 rfl rfl (by decide) rfl ?_
        refine j_goto (pc := 1218) (tgt := 18) dL_law_1218 (by decide) ?_
        exact hr (v3 + 6) q44g
      · refine j_iconst (pc := 391) (v := 0) dL_law_391 (by decide) ?_
        exact j_lawret dL_law_392 hX rfl
    · refine j_aload_n (pc := 393) 2 dL_law_393 rfl rfl ?_
      refine j_aload_n (pc := 394) 3 dL_law_394 rfl rfl ?_
      refine j_iload_n (pc := 395) 0 dL_law_395 rfl rfl ?_
      refine j_iconst (pc := 396) (v := 1) dL_law_396 (by decide) ?_
      refine j_iadd (pc := 397) dL_law_397 ?_
      refine j_aldS (pc := 398) dL_law_398 hX rfl (fun x45 => ?_)
      refine j_aload_n (pc := 399) 3 dL_law_399 rfl rfl ?_
      refine j_iload_n (pc := 400) 0 dL_law_400 rfl rfl ?_
      refine j_iconst (pc := 401) (v := 2) dL_law_401 (by decide) ?_
      refine j_iadd (pc := 402) dL_law_402 ?_
      refine j_aldS (pc := 403) dL_law_403 hX rfl (fun x46 => ?_)
      refine j_aload_n (pc := 404) 3 dL_law_404 rfl rfl ?_
      refine j_iload_n (pc := 405) 0 dL_law_405 rfl rfl ?_
      refine j_iconst (pc := 406) (v := 3) dL_law_406 (by decide) ?_
      refine j_iadd (pc := 407) dL_law_407 ?_
      refine j_aldS (pc := 408) dL_law_408 hX rfl (fun x47 => ?_)
      refine j_callV (pc := 409) (own := RL) [sI x45, sI x46, sI x47] [] dL_law_409 lc_L_44 lv_X8_lay rfl (m_X8_lay z p1 x45 x46 x47 g) ⟨⟨Nat.le_of_ble_eq_true rfl, Nat.le_of_ble_eq_true rfl⟩, Nat.le_of_ble_eq_true rfl⟩ rfl rfl (fun q48r q48g => ?_)
      refine j_aload_n (pc := 412) 1 dL_law_412 rfl rfl ?_
      refine j_aload_n (pc := 413) 3 dL_law_413 rfl rfl ?_
      refine j_iload_n (pc := 414) 0 dL_law_414 rfl rfl ?_
      refine j_iconst (pc := 415) (v := 1) dL_law_415 (by decide) ?_
      refine j_iadd (pc := 416) dL_law_416 ?_
      refine j_aldS (pc := 417) dL_law_417 hX rfl (fun x49 => ?_)
      refine j_aload_n (pc := 418) 3 dL_law_418 rfl rfl ?_
      refine j_iload_n (pc := 419) 0 dL_law_419 rfl rfl ?_
      refine j_iconst (pc := 420) (v := 2) dL_law_420 (by decide) ?_
      refine j_iadd (pc := 421) dL_law_421 ?_
      refine j_aldS (pc := 422) dL_law_422 hX rfl (fun x50 => ?_)
      refine j_aload_n (pc := 423) 3 dL_law_423 rfl rfl ?_
      refine j_iload_n (pc := 424) 0 dL_law_424 rfl rfl ?_
      refine j_iconst (pc := 425) (v := 3) dL_law_425 (by decide) ?_
      refine j_iadd (pc := 426) dL_law_426 ?_
      refine j_aldS (pc := 427) dL_law_427 hX rfl (fun x51 => ?_)
      refine j_callV (pc := 428) (own := RL) [sI x49, sI x50, sI x51] [sI q48r] dL_law_428 lc_L_48 lv_X9_lay rfl (m_X9_lay z p2 x49 x50 x51 q48g) ⟨⟨Nat.le_of_ble_eq_true rfl, Nat.le_of_ble_eq_true rfl⟩, Nat.le_of_ble_eq_true rfl⟩ rfl rfl (fun q52r q52g => ?_)
      refine j_icmp_eq (pc := 431) (tgt := 1215) dL_law_431 (by decide) rfl (fun hc => ?_) (fun hc => ?_)
      · refine j_iinc (pc := 1215) (v := (v3 + 6)) (lv' := [(3, sI (v3 + 6)), (2, sR p2), (1, sR p1), (0, sR p0)]) 0 dL_law_1215 rfl rfl (by decide) rfl ?_
        refine j_goto (pc := 1218) (tgt := 18) dL_law_1218 (by decide) ?_
        exact hr (v3 + 6) q52g
      · refine j_iconst (pc := 434) (v := 0) dL_law_434 (by decide) ?_
        exact j_lawret dL_law_435 hX rfl
    · refine j_aload_n (pc := 436) 2 dL_law_436 rfl rfl ?_
      refine j_aload_n (pc := 437) 3 dL_law_437 rfl rfl ?_
      refine j_iload_n (pc := 438) 0 dL_law_438 rfl rfl ?_
      refine j_iconst (pc := 439) (v := 1) dL_law_439 (by decide) ?_
      refine j_iadd (pc := 440) dL_law_440 ?_
      refine j_aldS (pc := 441) dL_law_441 hX rfl (fun x53 => ?_)
      refine j_callV (pc := 442) (own := RL) [sI x53] [] dL_law_442 lc_L_49 lv_X8_tear rfl (m_X8_tear z p1 x53 g) ⟨⟨Nat.le_of_ble_eq_true rfl, Nat.le_of_ble_eq_true rfl⟩, Nat.le_of_ble_eq_true rfl⟩ rfl rfl (fun q54r q54g => ?_)
      refine j_aload_n (pc := 445) 1 dL_law_445 rfl rfl ?_
      refine j_aload_n (pc := 446) 3 dL_law_446 rfl rfl ?_
      refine j_iload_n (pc := 447) 0 dL_law_447 rfl rfl ?_
      refine j_iconst (pc := 448) (v := 1) dL_law_448 (by decide) ?_
      refine j_iadd (pc := 449) dL_law_449 ?_
      refine j_aldS (pc := 450) dL_law_450 hX rfl (fun x55 => ?_)
      refine j_callV (pc := 451) (own := RL) [sI x55] [sI q54r] dL_law_451 lc_L_52 lv_X9_tear rfl (m_X9_tear z p2 x55 q54g) ⟨⟨Nat.le_of_ble_eq_true rfl, Nat.le_of_ble_eq_true rfl⟩, Nat.le_of_ble_eq_true rfl⟩ rfl rfl (fun q56r q56g => ?_)
      refine j_icmp_eq (pc := 454) (tgt := 1215) dL_law_454 (by decide) rfl (fun hc => ?_) (fun hc => ?_)
      · refine j_iinc (pc := 1215) (v := (v3 + 6)) (lv' := [(3, sI (v3 + 6)), (2, sR p2), (1, sR p1), (0, sR p0)]) 0 dL_law_1215 rfl rfl (by decide) rfl ?_
        refine j_goto (pc := 1218) (tgt := 18) dL_law_1218 (by decide) ?_
        exact hr (v3 + 6) q56g
      · refine j_iconst (pc := 457) (v := 0) dL_law_457 (by decide) ?_
        exact j_lawret dL_law_458 hX rfl
    · refine j_aload_n (pc := 459) 2 dL_law_459 rfl rfl ?_
      refine j_aload_n (pc := 460) 3 dL_law_460 rfl rfl ?_
      refine j_iload_n (pc := 461) 0 dL_law_461 rfl rfl ?_
      refine j_iconst (pc := 462) (v := 1) dL_law_462 (by decide) ?_
      refine j_iadd (pc := 463) dL_law_463 ?_
      refine j_aldS (pc := 464) dL_law_464 hX rfl (fun x57 => ?_)
      refine j_aload_n (pc := 465) 3 dL_law_465 rfl rfl ?_
      refine j_iload_n (pc := 466) 0 dL_law_466 rfl rfl ?_
      refine j_iconst (pc := 467) (v := 2) dL_law_467 (by decide) ?_
      refine j_iadd (pc := 468) dL_law_468 ?_
      refine j_aldS (pc := 469) dL_law_469 hX rfl (fun x58 => ?_)
      refine j_aload_n (pc := 470) 3 dL_law_470 rfl rfl ?_
      refine j_iload_n (pc := 471) 0 dL_law_471 rfl rfl ?_
      refine j_iconst (pc := 472) (v := 3) dL_law_472 (by decide) ?_
      refine j_iadd (pc := 473) dL_law_473 ?_
      refine j_aldS (pc := 474) dL_law_474 hX rfl (fun x59 => ?_)
      refine j_aload_n (pc := 475) 3 dL_law_475 rfl rfl ?_
      refine j_iload_n (pc := 476) 0 dL_law_476 rfl rfl ?_
      refine j_iconst (pc := 477) (v := 4) dL_law_477 (by decide) ?_
      refine j_iadd (pc := 478) dL_law_478 ?_
      refine j_aldS (pc := 479) dL_law_479 hX rfl (fun x60 => ?_)
      refine j_aload_n (pc := 480) 3 dL_law_480 rfl rfl ?_
      refine j_iload_n (pc := 481) 0 dL_law_481 rfl rfl ?_
      refine j_iconst (pc := 482) (v := 5) dL_law_482 (by decide) ?_
      refine j_iadd (pc := 483) dL_law_483 ?_
      refine j_aldS (pc := 484) dL_law_484 hX rfl (fun x61 => ?_)
      refine j_callV (pc := 485) (own := RL) [sI x57, sI x58, sI x59, sI x60, sI x61] [] dL_law_485 lc_L_53 lv_X8_copy rfl (m_X8_copy z p1 x57 x58 x59 x60 x61 g) ⟨⟨Nat.le_of_ble_eq_true rfl, Nat.le_of_ble_eq_true rfl⟩, Nat.le_of_ble_eq_true rfl⟩ rfl rfl (fun q62r q62g => ?_)
      refine j_aload_n (pc := 488) 1 dL_law_488 rfl rfl ?_
      refine j_aload_n (pc := 489) 3 dL_law_489 rfl rfl ?_
      refine j_iload_n (pc := 490) 0 dL_law_490 rfl rfl ?_
      refine j_iconst (pc := 491) (v := 1) dL_law_491 (by decide) ?_
      refine j_iadd (pc := 492) dL_law_492 ?_
      refine j_aldS (pc := 493) dL_law_493 hX rfl (fun x63 => ?_)
      refine j_aload_n (pc := 494) 3 dL_law_494 rfl rfl ?_
      refine j_iload_n (pc := 495) 0 dL_law_495 rfl rfl ?_
      refine j_iconst (pc := 496) (v := 2) dL_law_496 (by decide) ?_
      refine j_iadd (pc := 497) dL_law_497 ?_
      refine j_aldS (pc := 498) dL_law_498 hX rfl (fun x64 => ?_)
      refine j_aload_n (pc := 499) 3 dL_law_499 rfl rfl ?_
      refine j_iload_n (pc := 500) 0 dL_law_500 rfl rfl ?_
      refine j_iconst (pc := 501) (v := 3) dL_law_501 (by decide) ?_
      refine j_iadd (pc := 502) dL_law_502 ?_
      refine j_aldS (pc := 503) dL_law_503 hX rfl (fun x65 => ?_)
      refine j_aload_n (pc := 504) 3 dL_law_504 rfl rfl ?_
      refine j_iload_n (pc := 505) 0 dL_law_505 rfl rfl ?_
      refine j_iconst (pc := 506) (v := 4) dL_law_506 (by decide) ?_
      refine j_iadd (pc := 507) dL_law_507 ?_
      refine j_aldS (pc := 508) dL_law_508 hX rfl (fun x66 => ?_)
      refine j_aload_n (pc := 509) 3 dL_law_509 rfl rfl ?_
      refine j_iload_n (pc := 510) 0 dL_law_510 rfl rfl ?_
      refine j_iconst (pc := 511) (v := 5) dL_law_511 (by decide) ?_
      refine j_iadd (pc := 512) dL_law_512 ?_
      refine j_aldS (pc := 513) dL_law_513 hX rfl (fun x67 => ?_)
      refine j_callV (pc := 514) (own := RL) [sI x63, sI x64, sI x65, sI x66, sI x67] [sI q62r] dL_law_514 lc_L_57 lv_X9_copy rfl (m_X9_copy z p2 x63 x64 x65 x66 x67 q62g) ⟨⟨Nat.le_of_ble_eq_true rfl, Nat.le_of_ble_eq_true rfl⟩, Nat.le_of_ble_eq_true rfl⟩ rfl rfl (fun q68r q68g => ?_)
      refine j_icmp_eq (pc := 517) (tgt := 1215) dL_law_517 (by decide) rfl (fun hc => ?_) (fun hc => ?_)
      · refine j_iinc (pc := 1215) (v := (v3 + 6)) (lv' := [(3, sI (v3 + 6)), (2, sR p2), (1, sR p1), (0, sR p0)]) 0 dL_law_1215 rfl rfl (by decide) rfl ?_
        refine j_goto (pc := 1218) (tgt := 18) dL_law_1218 (by decide) ?_
        exact hr (v3 + 6) q68g
      · refine j_iconst (pc := 520) (v := 0) dL_law_520 (by decide) ?_
        exact j_lawret dL_law_521 hX rfl
    · refine j_aload_n (pc := 522) 2 dL_law_522 rfl rfl ?_
      refine j_aload_n (pc := 523) 3 dL_law_523 rfl rfl ?_
      refine j_iload_n (pc := 524) 0 dL_law_524 rfl rfl ?_
      refine j_iconst (pc := 525) (v := 1) dL_law_525 (by decide) ?_
      refine j_iadd (pc := 526) dL_law_526 ?_
      refine j_aldS (pc := 527) dL_law_527 hX rfl (fun x69 => ?_)
      refine j_callV (pc := 528) (own := RL) [sI x69] [] dL_law_528 lc_L_58 lv_X8_mean rfl (m_X8_mean z p1 x69 g) ⟨⟨Nat.le_of_ble_eq_true rfl, Nat.le_of_ble_eq_true rfl⟩, Nat.le_of_ble_eq_true rfl⟩ rfl rfl (fun q70r q70g => ?_)
      refine j_aload_n (pc := 531) 1 dL_law_531 rfl rfl ?_
      refine j_aload_n (pc := 532) 3 dL_law_532 rfl rfl ?_
      refine j_iload_n (pc := 533) 0 dL_law_533 rfl rfl ?_
      refine j_iconst (pc := 534) (v := 1) dL_law_534 (by decide) ?_
      refine j_iadd (pc := 535) dL_law_535 ?_
      refine j_aldS (pc := 536) dL_law_536 hX rfl (fun x71 => ?_)
      refine j_callV (pc := 537) (own := RL) [sI x71] [sI q70r] dL_law_537 lc_L_61 lv_X9_mean rfl (m_X9_mean z p2 x71 q70g) ⟨⟨Nat.le_of_ble_eq_true rfl, Nat.le_of_ble_eq_true rfl⟩, Nat.le_of_ble_eq_true rfl⟩ rfl rfl (fun q72r q72g => ?_)
      refine j_icmp_eq (pc := 540) (tgt := 1215) dL_law_540 (by decide) rfl (fun hc => ?_) (fun hc => ?_)
      · refine j_iinc (pc := 1215) (v := (v3 + 6)) (lv' := [(3, sI (v3 + 6)), (2, sR p2), (1, sR p1), (0, sR p0)]) 0 dL_law_1215 rfl rfl (by decide) rfl ?_
        refine j_goto (pc := 1218) (tgt := 18) dL_law_1218 (by decide) ?_
        exact hr (v3 + 6) q72g
      · refine j_iconst (pc := 543) (v := 0) dL_law_543 (by decide) ?_
        exact j_lawret dL_law_544 hX rfl
    · refine j_aload_n (pc := 545) 2 dL_law_545 rfl rfl ?_
      refine j_aload_n (pc := 546) 3 dL_law_546 rfl rfl ?_
      refine j_iload_n (pc := 547) 0 dL_law_547 rfl rfl ?_
      refine j_iconst (pc := 548) (v := 1) dL_law_548 (by decide) ?_
      refine j_iadd (pc := 549) dL_law_549 ?_
      refine j_aldS (pc := 550) dL_law_550 hX rfl (fun x73 => ?_)
      refine j_aload_n (pc := 551) 3 dL_law_551 rfl rfl ?_
      refine j_iload_n (pc := 552) 0 dL_law_552 rfl rfl ?_
      refine j_iconst (pc := 553) (v := 2) dL_law_553 (by decide) ?_
      refine j_iadd (pc := 554) dL_law_554 ?_
      refine j_aldS (pc := 555) dL_law_555 hX rfl (fun x74 => ?_)
      refine j_aload_n (pc := 556) 3 dL_law_556 rfl rfl ?_
      refine j_iload_n (pc := 557) 0 dL_law_557 rfl rfl ?_
      refine j_iconst (pc := 558) (v := 3) dL_law_558 (by decide) ?_
      refine j_iadd (pc := 559) dL_law_559 ?_
      refine j_aldS (pc := 560) dL_law_560 hX rfl (fun x75 => ?_)
      refine j_aload_n (pc := 561) 3 dL_law_561 rfl rfl ?_
      refine j_iload_n (pc := 562) 0 dL_law_562 rfl rfl ?_
      refine j_iconst (pc := 563) (v := 4) dL_law_563 (by decide) ?_
      refine j_iadd (pc := 564) dL_law_564 ?_
      refine j_aldS (pc := 565) dL_law_565 hX rfl (fun x76 => ?_)
      refine j_aload_n (pc := 566) 3 dL_law_566 rfl rfl ?_
      refine j_iload_n (pc := 567) 0 dL_law_567 rfl rfl ?_
      refine j_iconst (pc := 568) (v := 5) dL_law_568 (by decide) ?_
      refine j_iadd (pc := 569) dL_law_569 ?_
      refine j_aldS (pc := 570) dL_law_570 hX rfl (fun x77 => ?_)
      refine j_callV (pc := 571) (own := RL) [sI x73, sI x74, sI x75, sI x76, sI x77] [] dL_law_571 lc_L_62 lv_X8_first rfl (m_X8_first z p1 x73 x74 x75 x76 x77 g) ⟨⟨Nat.le_of_ble_eq_true rfl, Nat.le_of_ble_eq_true rfl⟩, Nat.le_of_ble_eq_true rfl⟩ rfl rfl (fun q78r q78g => ?_)
      refine j_aload_n (pc := 574) 1 dL_law_574 rfl rfl ?_
      refine j_aload_n (pc := 575) 3 dL_law_575 rfl rfl ?_
      refine j_iload_n (pc := 576) 0 dL_law_576 rfl rfl ?_
      refine j_iconst (pc := 577) (v := 1) dL_law_577 (by decide) ?_
      refine j_iadd (pc := 578) dL_law_578 ?_
      refine j_aldS (pc := 579) dL_law_579 hX rfl (fun x79 => ?_)
      refine j_aload_n (pc := 580) 3 dL_law_580 rfl rfl ?_
      refine j_iload_n (pc := 581) 0 dL_law_581 rfl rfl ?_
      refine j_iconst (pc := 582) (v := 2) dL_law_582 (by decide) ?_
      refine j_iadd (pc := 583) dL_law_583 ?_
      refine j_aldS (pc := 584) dL_law_584 hX rfl (fun x80 => ?_)
      refine j_aload_n (pc := 585) 3 dL_law_585 rfl rfl ?_
      refine j_iload_n (pc := 586) 0 dL_law_586 rfl rfl ?_
      refine j_iconst (pc := 587) (v := 3) dL_law_587 (by decide) ?_
      refine j_iadd (pc := 588) dL_law_588 ?_
      refine j_aldS (pc := 589) dL_law_589 hX rfl (fun x81 => ?_)
      refine j_aload_n (pc := 590) 3 dL_law_590 rfl rfl ?_
      refine j_iload_n (pc := 591) 0 dL_law_591 rfl rfl ?_
      refine j_iconst (pc := 592) (v := 4) dL_law_592 (by decide) ?_
      refine j_iadd (pc := 593) dL_law_593 ?_
      refine j_aldS (pc := 594) dL_law_594 hX rfl (fun x82 => ?_)
      refine j_aload_n (pc := 595) 3 dL_law_595 rfl rfl ?_
      refine j_iload_n (pc := 596) 0 dL_law_596 rfl rfl ?_
      refine j_iconst (pc := 597) (v := 5) dL_law_597 (by decide) ?_
      refine j_iadd (pc := 598) dL_law_598 ?_
      refine j_aldS (pc := 599) dL_law_599 hX rfl (fun x83 => ?_)
      refine j_callV (pc := 600) (own := RL) [sI x79, sI x80, sI x81, sI x82, sI x83] [sI q78r] dL_law_600 lc_L_65 lv_X9_first rfl (m_X9_first z p2 x79 x80 x81 x82 x83 q78g) ⟨⟨Nat.le_of_ble_eq_true rfl, Nat.le_of_ble_eq_true rfl⟩, Nat.le_of_ble_eq_true rfl⟩ rfl rfl (fun q84r q84g => ?_)
      refine j_icmp_eq (pc := 603) (tgt := 1215) dL_law_603 (by decide) rfl (fun hc => ?_) (fun hc => ?_)
      · refine j_iinc (pc := 1215) (v := (v3 + 6)) (lv' := [(3, sI (v3 + 6)), (2, sR p2), (1, sR p1), (0, sR p0)]) 0 dL_law_1215 rfl rfl (by decide) rfl ?_
        refine j_goto (pc := 1218) (tgt := 18) dL_law_1218 (by decide) ?_
        exact hr (v3 + 6) q84g
      · refine j_iconst (pc := 606) (v := 0) dL_law_606 (by decide) ?_
        exact j_lawret dL_law_607 hX rfl
    · refine j_aload_n (pc := 608) 2 dL_law_608 rfl rfl ?_
      refine j_aload_n (pc := 609) 3 dL_law_609 rfl rfl ?_
      refine j_iload_n (pc := 610) 0 dL_law_610 rfl rfl ?_
      refine j_iconst (pc := 611) (v := 1) dL_law_611 (by decide) ?_
      refine j_iadd (pc := 612) dL_law_612 ?_
      refine j_aldS (pc := 613) dL_law_613 hX rfl (fun x85 => ?_)
      refine j_aload_n (pc := 614) 3 dL_law_614 rfl rfl ?_
      refine j_iload_n (pc := 615) 0 dL_law_615 rfl rfl ?_
      refine j_iconst (pc := 616) (v := 2) dL_law_616 (by decide) ?_
      refine j_iadd (pc := 617) dL_law_617 ?_
      refine j_aldS (pc := 618) dL_law_618 hX rfl (fun x86 => ?_)
      refine j_aload_n (pc := 619) 3 dL_law_619 rfl rfl ?_
      refine j_iload_n (pc := 620) 0 dL_law_620 rfl rfl ?_
      refine j_iconst (pc := 621) (v := 3) dL_law_621 (by decide) ?_
      refine j_iadd (pc := 622) dL_law_622 ?_
      refine j_aldS (pc := 623) dL_law_623 hX rfl (fun x87 => ?_)
      refine j_callV (pc := 624) (own := RL) [sI x85, sI x86, sI x87] [] dL_law_624 lc_L_66 lv_X8_pick rfl (m_X8_pick z p1 x85 x86 x87 g) ⟨⟨Nat.le_of_ble_eq_true rfl, Nat.le_of_ble_eq_true rfl⟩, Nat.le_of_ble_eq_true rfl⟩ rfl rfl (fun q88r q88g => ?_)
      refine j_aload_n (pc := 627) 1 dL_law_627 rfl rfl ?_
      refine j_aload_n (pc := 628) 3 dL_law_628 rfl rfl ?_
      refine j_iload_n (pc := 629) 0 dL_law_629 rfl rfl ?_
      refine j_iconst (pc := 630) (v := 1) dL_law_630 (by decide) ?_
      refine j_iadd (pc := 631) dL_law_631 ?_
      refine j_aldS (pc := 632) dL_law_632 hX rfl (fun x89 => ?_)
      refine j_aload_n (pc := 633) 3 dL_law_633 rfl rfl ?_
      refine j_iload_n (pc := 634) 0 dL_law_634 rfl rfl ?_
      refine j_iconst (pc := 635) (v := 2) dL_law_635 (by decide) ?_
      refine j_iadd (pc := 636) dL_law_636 ?_
      refine j_aldS (pc := 637) dL_law_637 hX rfl (fun x90 => ?_)
      refine j_aload_n (pc := 638) 3 dL_law_638 rfl rfl ?_
      refine j_iload_n (pc := 639) 0 dL_law_639 rfl rfl ?_
      refine j_iconst (pc := 640) (v := 3) dL_law_640 (by decide) ?_
      refine j_iadd (pc := 641) dL_law_641 ?_
      refine j_aldS (pc := 642) dL_law_642 hX rfl (fun x91 => ?_)
      refine j_callV (pc := 643) (own := RL) [sI x89, sI x90, sI x91] [sI q88r] dL_law_643 lc_L_69 lv_X9_pick rfl (m_X9_pick z p2 x89 x90 x91 q88g) ⟨⟨Nat.le_of_ble_eq_true rfl, Nat.le_of_ble_eq_true rfl⟩, Nat.le_of_ble_eq_true rfl⟩ rfl rfl (fun q92r q92g => ?_)
      refine j_icmp_eq (pc := 646) (tgt := 1215) dL_law_646 (by decide) rfl (fun hc => ?_) (fun hc => ?_)
      · refine j_iinc (pc := 1215) (v := (v3 + 6)) (lv' := [(3, sI (v3 + 6)), (2, sR p2), (1, sR p1), (0, sR p0)]) 0 dL_law_1215 rfl rfl (by decide) rfl ?_
        refine j_goto (pc := 1218) (tgt := 18) dL_law_1218 (by decide) ?_
        exact hr (v3 + 6) q92g
      · refine j_iconst (pc := 649) (v := 0) dL_law_649 (by decide) ?_
        exact j_lawret dL_law_650 hX rfl
    · refine j_aload_n (pc := 651) 2 dL_law_651 rfl rfl ?_
      refine j_aload_n (pc := 652) 3 dL_law_652 rfl rfl ?_
      refine j_iload_n (pc := 653) 0 dL_law_653 rfl rfl ?_
      refine j_iconst (pc := 654) (v := 1) dL_law_654 (by decide) ?_
      refine j_iadd (pc := 655) dL_law_655 ?_
      refine j_aldS (pc := 656) dL_law_656 hX rfl (fun x93 => ?_)
      refine j_aload_n (pc := 657) 3 dL_law_657 rfl rfl ?_
      refine j_iload_n (pc := 658) 0 dL_law_658 rfl rfl ?_
      refine j_iconst (pc := 659) (v := 2) dL_law_659 (by decide) ?_
      refine j_iadd (pc := 660) dL_law_660 ?_
      refine j_aldS (pc := 661) dL_law_661 hX rfl (fun x94 => ?_)
      refine j_callV (pc := 662) (own := RL) [sI x93, sI x94] [] dL_law_662 lc_L_70 lv_X8_told rfl (m_X8_told z p1 x93 x94 g) ⟨⟨Nat.le_of_ble_eq_true rfl, Nat.le_of_ble_eq_true rfl⟩, Nat.le_of_ble_eq_true rfl⟩ rfl rfl (fun q95r q95g => ?_)
      refine j_aload_n (pc := 665) 1 dL_law_665 rfl rfl ?_
      refine j_aload_n (pc := 666) 3 dL_law_666 rfl rfl ?_
      refine j_iload_n (pc := 667) 0 dL_law_667 rfl rfl ?_
      refine j_iconst (pc := 668) (v := 1) dL_law_668 (by decide) ?_
      refine j_iadd (pc := 669) dL_law_669 ?_
      refine j_aldS (pc := 670) dL_law_670 hX rfl (fun x96 => ?_)
      refine j_aload_n (pc := 671) 3 dL_law_671 rfl rfl ?_
      refine j_iload_n (pc := 672) 0 dL_law_672 rfl rfl ?_
      refine j_iconst (pc := 673) (v := 2) dL_law_673 (by decide) ?_
      refine j_iadd (pc := 674) dL_law_674 ?_
      refine j_aldS (pc := 675) dL_law_675 hX rfl (fun x97 => ?_)
      refine j_callV (pc := 676) (own := RL) [sI x96, sI x97] [sI q95r] dL_law_676 lc_L_73 lv_X9_told rfl (m_X9_told z p2 x96 x97 q95g) ⟨⟨Nat.le_of_ble_eq_true rfl, Nat.le_of_ble_eq_true rfl⟩, Nat.le_of_ble_eq_true rfl⟩ rfl rfl (fun q98r q98g => ?_)
      refine j_icmp_eq (pc := 679) (tgt := 1215) dL_law_679 (by decide) rfl (fun hc => ?_) (fun hc => ?_)
      · refine j_iinc (pc := 1215) (v := (v3 + 6)) (lv' := [(3, sI (v3 + 6)), (2, sR p2), (1, sR p1), (0, sR p0)]) 0 dL_law_1215 rfl rfl (by decide) rfl ?_
        refine j_goto (pc := 1218) (tgt := 18) dL_law_1218 (by decide) ?_
        exact hr (v3 + 6) q98g
      · refine j_iconst (pc := 682) (v := 0) dL_law_682 (by decide) ?_
        exact j_lawret dL_law_683 hX rfl
    · refine j_aload_n (pc := 684) 2 dL_law_684 rfl rfl ?_
      refine j_aload_n (pc := 685) 3 dL_law_685 rfl rfl ?_
      refine j_iload_n (pc := 686) 0 dL_law_686 rfl rfl ?_
      refine j_iconst (pc := 687) (v := 1) dL_law_687 (by decide) ?_
      refine j_iadd (pc := 688) dL_law_688 ?_
      refine j_aldS (pc := 689) dL_law_689 hX rfl (fun x99 => ?_)
      refine j_aload_n (pc := 690) 3 dL_law_690 rfl rfl ?_
      refine j_iload_n (pc := 691) 0 dL_law_691 rfl rfl ?_
      refine j_iconst (pc := 692) (v := 2) dL_law_692 (by decide) ?_
      refine j_iadd (pc := 693) dL_law_693 ?_
      refine j_aldS (pc := 694) dL_law_694 hX rfl (fun x100 => ?_)
      refine j_callV (pc := 695) (own := RL) [sI x99, sI x100] [] dL_law_695 lc_L_74 lv_X8_mark rfl (m_X8_mark z p1 x99 x100 g) ⟨⟨Nat.le_of_ble_eq_true rfl, Nat.le_of_ble_eq_true rfl⟩, Nat.le_of_ble_eq_true rfl⟩ rfl rfl (fun q101r q101g => ?_)
      refine j_aload_n (pc := 698) 1 dL_law_698 rfl rfl ?_
      refine j_aload_n (pc := 699) 3 dL_law_699 rfl rfl ?_
      refine j_iload_n (pc := 700) 0 dL_law_700 rfl rfl ?_
      refine j_iconst (pc := 701) (v := 1) dL_law_701 (by decide) ?_
      refine j_iadd (pc := 702) dL_law_702 ?_
      refine j_aldS (pc := 703) dL_law_703 hX rfl (fun x102 => ?_)
      refine j_aload_n (pc := 704) 3 dL_law_704 rfl rfl ?_
      refine j_iload_n (pc := 705) 0 dL_law_705 rfl rfl ?_
      refine j_iconst (pc := 706) (v := 2) dL_law_706 (by decide) ?_
      refine j_iadd (pc := 707) dL_law_707 ?_
      refine j_aldS (pc := 708) dL_law_708 hX rfl (fun x103 => ?_)
      refine j_callV (pc := 709) (own := RL) [sI x102, sI x103] [sI q101r] dL_law_709 lc_L_77 lv_X9_mark rfl (m_X9_mark z p2 x102 x103 q101g) ⟨⟨Nat.le_of_ble_eq_true rfl, Nat.le_of_ble_eq_true rfl⟩, Nat.le_of_ble_eq_true rfl⟩ rfl rfl (fun q104r q104g => ?_)
      refine j_icmp_eq (pc := 712) (tgt := 1215) dL_law_712 (by decide) rfl (fun hc => ?_) (fun hc => ?_)
      · refine j_iinc (pc := 1215) (v := (v3 + 6)) (lv' := [(3, sI (v3 + 6)), (2, sR p2), (1, sR p1), (0, sR p0)]) 0 dL_law_1215 rfl rfl (by decide) rfl ?_
        refine j_goto (pc := 1218) (tgt := 18) dL_law_1218 (by decide) ?_
        exact hr (v3 + 6) q104g
      · refine j_iconst (pc := 715) (v := 0) dL_law_715 (by decide) ?_
        exact j_lawret dL_law_716 hX rfl
    · refine j_aload_n (pc := 717) 2 dL_law_717 rfl rfl ?_
      refine j_aload_n (pc := 718) 3 dL_law_718 rfl rfl ?_
      refine j_iload_n (pc := 719) 0 dL_law_719 rfl rfl ?_
      refine j_iconst (pc := 720) (v := 1) dL_law_720 (by decide) ?_
      refine j_iadd (pc := 721) dL_law_721 ?_
      refine j_aldS (pc := 722) dL_law_722 hX rfl (fun x105 => ?_)
      refine j_aload_n (pc := 723) 3 dL_law_723 rfl rfl ?_
      refine j_iload_n (pc := 724) 0 dL_law_724 rfl rfl ?_
      refine j_iconst (pc := 725) (v := 2) dL_law_725 (by decide) ?_
      refine j_iadd (pc := 726) dL_law_726 ?_
      refine j_aldS (pc := 727) dL_law_727 hX rfl (fun x106 => ?_)
      refine j_callV (pc := 728) (own := RL) [sI x105, sI x106] [] dL_law_728 lc_L_78 lv_X8_quake rfl (m_X8_quake z p1 x105 x106 g) ⟨⟨Nat.le_of_ble_eq_true rfl, Nat.le_of_ble_eq_true rfl⟩, Nat.le_of_ble_eq_true rfl⟩ rfl rfl (fun q107r q107g => ?_)
      refine j_aload_n (pc := 731) 1 dL_law_731 rfl rfl ?_
      refine j_aload_n (pc := 732) 3 dL_law_732 rfl rfl ?_
      refine j_iload_n (pc := 733) 0 dL_law_733 rfl rfl ?_
      refine j_iconst (pc := 734) (v := 1) dL_law_734 (by decide) ?_
      refine j_iadd (pc := 735) dL_law_735 ?_
      refine j_aldS (pc := 736) dL_law_736 hX rfl (fun x108 => ?_)
      refine j_aload_n (pc := 737) 3 dL_law_737 rfl rfl ?_
      refine j_iload_n (pc := 738) 0 dL_law_738 rfl rfl ?_
      refine j_iconst (pc := 739) (v := 2) dL_law_739 (by decide) ?_
      refine j_iadd (pc := 740) dL_law_740 ?_
      refine j_aldS (pc := 741) dL_law_741 hX rfl (fun x109 => ?_)
      refine j_callV (pc := 742) (own := RL) [sI x108, sI x109] [sI q107r] dL_law_742 lc_L_81 lv_X9_quake rfl (m_X9_quake z p2 x108 x109 q107g) ⟨⟨Nat.le_of_ble_eq_true rfl, Nat.le_of_ble_eq_true rfl⟩, Nat.le_of_ble_eq_true rfl⟩ rfl rfl (fun q110r q110g => ?_)
      refine j_icmp_eq (pc := 745) (tgt := 1215) dL_law_745 (by decide) rfl (fun hc => ?_) (fun hc => ?_)
      · refine j_iinc (pc := 1215) (v := (v3 + 6)) (lv' := [(3, sI (v3 + 6)), (2, sR p2), (1, sR p1), (0, sR p0)]) 0 dL_law_1215 rfl rfl (by decide) rfl ?_
        refine j_goto (pc := 1218) (tgt := 18) dL_law_1218 (by decide) ?_
        exact hr (v3 + 6) q110g
      · refine j_iconst (pc := 748) (v := 0) dL_law_748 (by decide) ?_
        exact j_lawret dL_law_749 hX rfl
    · refine j_aload_n (pc := 750) 2 dL_law_750 rfl rfl ?_
      refine j_aload_n (pc := 751) 3 dL_law_751 rfl rfl ?_
      refine j_iload_n (pc := 752) 0 dL_law_752 rfl rfl ?_
      refine j_iconst (pc := 753) (v := 1) dL_law_753 (by decide) ?_
      refine j_iadd (pc := 754) dL_law_754 ?_
      refine j_aldS (pc := 755) dL_law_755 hX rfl (fun x111 => ?_)
      refine j_aload_n (pc := 756) 3 dL_law_756 rfl rfl ?_
      refine j_iload_n (pc := 757) 0 dL_law_757 rfl rfl ?_
      refine j_iconst (pc := 758) (v := 2) dL_law_758 (by decide) ?_
      refine j_iadd (pc := 759) dL_law_759 ?_
      refine j_aldS (pc := 760) dL_law_760 hX rfl (fun x112 => ?_)
      refine j_callV (pc := 761) (own := RL) [sI x111, sI x112] [] dL_law_761 lc_L_82 lv_X8_cell rfl (m_X8_cell z p1 x111 x112 g) ⟨⟨Nat.le_of_ble_eq_true rfl, Nat.le_of_ble_eq_true rfl⟩, Nat.le_of_ble_eq_true rfl⟩ rfl rfl (fun q113r q113g => ?_)
      refine j_aload_n (pc := 764) 1 dL_law_764 rfl rfl ?_
      refine j_aload_n (pc := 765) 3 dL_law_765 rfl rfl ?_
      refine j_iload_n (pc := 766) 0 dL_law_766 rfl rfl ?_
      refine j_iconst (pc := 767) (v := 1) dL_law_767 (by decide) ?_
      refine j_iadd (pc := 768) dL_law_768 ?_
      refine j_aldS (pc := 769) dL_law_769 hX rfl (fun x114 => ?_)
      refine j_aload_n (pc := 770) 3 dL_law_770 rfl rfl ?_
      refine j_iload_n (pc := 771) 0 dL_law_771 rfl rfl ?_
      refine j_iconst (pc := 772) (v := 2) dL_law_772 (by decide) ?_
      refine j_iadd (pc := 773) dL_law_773 ?_
      refine j_aldS (pc := 774) dL_law_774 hX rfl (fun x115 => ?_)
      refine j_callV (pc := 775) (own := RL) [sI x114, sI x115] [sI q113r] dL_law_775 lc_L_85 lv_X9_cell rfl (m_X9_cell z p2 x114 x115 q113g) ⟨⟨Nat.le_of_ble_eq_true rfl, Nat.le_of_ble_eq_true rfl⟩, Nat.le_of_ble_eq_true rfl⟩ rfl rfl (fun q116r q116g => ?_)
      refine j_icmp_eq (pc := 778) (tgt := 1215) dL_law_778 (by decide) rfl (fun hc => ?_) (fun hc => ?_)
      · refine j_iinc (pc := 1215) (v := (v3 + 6)) (lv' := [(3, sI (v3 + 6)), (2, sR p2), (1, sR p1), (0, sR p0)]) 0 dL_law_1215 rfl rfl (by decide) rfl ?_
        refine j_goto (pc := 1218) (tgt := 18) dL_law_1218 (by decide) ?_
        exact hr (v3 + 6) q116g
      · refine j_iconst (pc := 781) (v := 0) dL_law_781 (by decide) ?_
        exact j_lawret dL_law_782 hX rfl
    · refine j_aload_n (pc := 783) 2 dL_law_783 rfl rfl ?_
      refine j_aload_n (pc := 784) 3 dL_law_784 rfl rfl ?_
      refine j_iload_n (pc := 785) 0 dL_law_785 rfl rfl ?_
      refine j_iconst (pc := 786) (v := 1) dL_law_786 (by decide) ?_
      refine j_iadd (pc := 787) dL_law_787 ?_
      refine j_aldS (pc := 788) dL_law_788 hX rfl (fun x117 => ?_)
      refine j_aload_n (pc := 789) 3 dL_law_789 rfl rfl ?_
      refine j_iload_n (pc := 790) 0 dL_law_790 rfl rfl ?_
      refine j_iconst (pc := 791) (v := 2) dL_law_791 (by decide) ?_
      refine j_iadd (pc := 792) dL_law_792 ?_
      refine j_aldS (pc := 793) dL_law_793 hX rfl (fun x118 => ?_)
      refine j_aload_n (pc := 794) 3 dL_law_794 rfl rfl ?_
      refine j_iload_n (pc := 795) 0 dL_law_795 rfl rfl ?_
      refine j_iconst (pc := 796) (v := 3) dL_law_796 (by decide) ?_
      refine j_iadd (pc := 797) dL_law_797 ?_
      refine j_aldS (pc := 798) dL_law_798 hX rfl (fun x119 => ?_)
      refine J.jn (σ := Int32) (fun q120 pr => J yL_law cL_law 4 (some .boolean) 12 458 X g 807 [(3, sI v3), (2, sR p2), (1, sR p1), (0, sR p0)] [sI q120, sI x118, sI x117, sR p1] pr) (fun K807 hK807 => ?_) (fun q120 => ?_)
      · refine j_if_eq (pc := 799) (tgt := 806) dL_law_799 (by decide) bi (fun hc => ?_) (fun hc => ?_)
        · refine j_iconst (pc := 806) (v := 0) dL_law_806 (by decide) ?_
          exact hK807 (0)
        · refine j_iconst (pc := 802) (v := 1) dL_law_802 (by decide) ?_
          refine j_goto (pc := 803) (tgt := 807) dL_law_803 (by decide) ?_
          exact hK807 (1)
      · refine j_callV (pc := 807) (own := RL) [sI x117, sI x118, sI q120] [] dL_law_807 lc_L_86 lv_X8_time rfl (m_X8_time z p1 x117 x118 q120 g) ⟨⟨Nat.le_of_ble_eq_true rfl, Nat.le_of_ble_eq_true rfl⟩, Nat.le_of_ble_eq_true rfl⟩ rfl rfl (fun q121r q121g => ?_)
        refine j_aload_n (pc := 810) 1 dL_law_810 rfl rfl ?_
        refine j_aload_n (pc := 811) 3 dL_law_811 rfl rfl ?_
        refine j_iload_n (pc := 812) 0 dL_law_812 rfl rfl ?_
        refine j_iconst (pc := 813) (v := 1) dL_law_813 (by decide) ?_
        refine j_iadd (pc := 814) dL_law_814 ?_
        refine j_aldS (pc := 815) dL_law_815 hX rfl (fun x122 => ?_)
        refine j_aload_n (pc := 816) 3 dL_law_816 rfl rfl ?_
        refine j_iload_n (pc := 817) 0 dL_law_817 rfl rfl ?_
        refine j_iconst (pc := 818) (v := 2) dL_law_818 (by decide) ?_
        refine j_iadd (pc := 819) dL_law_819 ?_
        refine j_aldS (pc := 820) dL_law_820 hX rfl (fun x123 => ?_)
        refine j_aload_n (pc := 821) 3 dL_law_821 rfl rfl ?_
        refine j_iload_n (pc := 822) 0 dL_law_822 rfl rfl ?_
        refine j_iconst (pc := 823) (v := 3) dL_law_823 (by decide) ?_
        refine j_iadd (pc := 824) dL_law_824 ?_
        refine j_aldS (pc := 825) dL_law_825 hX rfl (fun x124 => ?_)
        refine J.jn (σ := Int32) (fun q125 pr => J yL_law cL_law 4 (some .boolean) 12 458 X q121g 834 [(3, sI v3), (2, sR p2), (1, sR p1), (0, sR p0)] [sI q125, sI x123, sI x122, sR p2, sI q121r] pr) (fun K834 hK834 => ?_) (fun q125 => ?_)
        · refine j_if_eq (pc := 826) (tgt := 833) dL_law_826 (by decide) bi (fun hc => ?_) (fun hc => ?_)
          · refine j_iconst (pc := 833) (v := 0) dL_law_833 (by decide) ?_
            exact hK834 (0)
          · refine j_iconst (pc := 829) (v := 1) dL_law_829 (by decide) ?_
            refine j_goto (pc := 830) (tgt := 834) dL_law_830 (by decide) ?_
            exact hK834 (1)
        · refine j_callV (pc := 834) (own := RL) [sI x122, sI x123, sI q125] [sI q121r] dL_law_834 lc_L_90 lv_X9_time rfl (m_X9_time z p2 x122 x123 q125 q121g) ⟨⟨Nat.le_of_ble_eq_true rfl, Nat.le_of_ble_eq_true rfl⟩, Nat.le_of_ble_eq_true rfl⟩ rfl rfl (fun q126r q126g => ?_)
          refine j_icmp_eq (pc := 837) (tgt := 1215) dL_law_837 (by decide) rfl (fun hc => ?_) (fun hc => ?_)
          · refine j_iinc (pc := 1215) (v := (v3 + 6)) (lv' := [(3, sI (v3 + 6)), (2, sR p2), (1, sR p1), (0, sR p0)]) 0 dL_law_1215 rfl rfl (by decide) rfl ?_
            refine j_goto (pc := 1218) (tgt := 18) dL_law_1218 (by decide) ?_
            exact hr (v3 + 6) q126g
          · refine j_iconst (pc := 840) (v := 0) dL_law_840 (by decide) ?_
            exact j_lawret dL_law_841 hX rfl
    · refine j_aload_n (pc := 842) 2 dL_law_842 rfl rfl ?_
      refine j_aload_n (pc := 843) 3 dL_law_843 rfl rfl ?_
      refine j_iload_n (pc := 844) 0 dL_law_844 rfl rfl ?_
      refine j_iconst (pc := 845) (v := 1) dL_law_845 (by decide) ?_
      refine j_iadd (pc := 846) dL_law_846 ?_
      refine j_aldS (pc := 847) dL_law_847 hX rfl (fun x127 => ?_)
      refine j_aload_n (pc := 848) 3 dL_law_848 rfl rfl ?_
      refine j_iload_n (pc := 849) 0 dL_law_849 rfl rfl ?_
      refine j_iconst (pc := 850) (v := 2) dL_law_850 (by decide) ?_
      refine j_iadd (pc := 851) dL_law_851 ?_
      refine j_aldS (pc := 852) dL_law_852 hX rfl (fun x128 => ?_)
      refine j_aload_n (pc := 853) 3 dL_law_853 rfl rfl ?_
      refine j_iload_n (pc := 854) 0 dL_law_854 rfl rfl ?_
      refine j_iconst (pc := 855) (v := 3) dL_law_855 (by decide) ?_
      refine j_iadd (pc := 856) dL_law_856 ?_
      refine j_aldS (pc := 857) dL_law_857 hX rfl (fun x129 => ?_)
      refine j_callV (pc := 858) (own := RL) [sI x127, sI x128, sI x129] [] dL_law_858 lc_L_91 lv_X8_holds rfl (m_X8_holds z p1 x127 x128 x129 g) ⟨⟨Nat.le_of_ble_eq_true rfl, Nat.le_of_ble_eq_true rfl⟩, Nat.le_of_ble_eq_true rfl⟩ rfl rfl (fun q130r q130g => ?_)
      refine j_aload_n (pc := 861) 1 dL_law_861 rfl rfl ?_
      refine j_aload_n (pc := 862) 3 dL_law_862 rfl rfl ?_
      refine j_iload_n (pc := 863) 0 dL_law_863 rfl rfl ?_
      refine j_iconst (pc := 864) (v := 1) dL_law_864 (by decide) ?_
      refine j_iadd (pc := 865) dL_law_865 ?_
      refine j_aldS (pc := 866) dL_law_866 hX rfl (fun x131 => ?_)
      refine j_aload_n (pc := 867) 3 dL_law_867 rfl rfl ?_
      refine j_iload_n (pc := 868) 0 dL_law_868 rfl rfl ?_
      refine j_iconst (pc := 869) (v := 2) dL_law_869 (by decide) ?_
      refine j_iadd (pc := 870) dL_law_870 ?_
      refine j_aldS (pc := 871) dL_law_871 hX rfl (fun x132 => ?_)
      refine j_aload_n (pc := 872) 3 dL_law_872 rfl rfl ?_
      refine j_iload_n (pc := 873) 0 dL_law_873 rfl rfl ?_
      refine j_iconst (pc := 874) (v := 3) dL_law_874 (by decide) ?_
      refine j_iadd (pc := 875) dL_law_875 ?_
      refine j_aldS (pc := 876) dL_law_876 hX rfl (fun x133 => ?_)
      refine j_callV (pc := 877) (own := RL) [sI x131, sI x132, sI x133] [sI q130r] dL_law_877 lc_L_94 lv_X9_holds rfl (m_X9_holds z p2 x131 x132 x133 q130g) ⟨⟨Nat.le_of_ble_eq_true rfl, Nat.le_of_ble_eq_true rfl⟩, Nat.le_of_ble_eq_true rfl⟩ rfl rfl (fun q134r q134g => ?_)
      refine j_icmp_eq (pc := 880) (tgt := 1215) dL_law_880 (by decide) rfl (fun hc => ?_) (fun hc => ?_)
      · refine j_iinc (pc := 1215) (v := (v3 + 6)) (lv' := [(3, sI (v3 + 6)), (2, sR p2), (1, sR p1), (0, sR p0)]) 0 dL_law_1215 rfl rfl (by decide) rfl ?_
        refine j_goto (pc := 1218) (tgt := 18) dL_law_1218 (by decide) ?_
        exact hr (v3 + 6) q134g
      · refine j_iconst (pc := 883) (v := 0) dL_law_883 (by decide) ?_
        exact j_lawret dL_law_884 hX rfl
    · refine j_aload_n (pc := 885) 2 dL_law_885 rfl rfl ?_
      refine j_aload_n (pc := 886) 3 dL_law_886 rfl rfl ?_
      refine j_iload_n (pc := 887) 0 dL_law_887 rfl rfl ?_
      refine j_iconst (pc := 888) (v := 1) dL_law_888 (by decide) ?_
      refine j_iadd (pc := 889) dL_law_889 ?_
      refine j_aldS (pc := 890) dL_law_890 hX rfl (fun x135 => ?_)
      refine j_aload_n (pc := 891) 3 dL_law_891 rfl rfl ?_
      refine j_iload_n (pc := 892) 0 dL_law_892 rfl rfl ?_
      refine j_iconst (pc := 893) (v := 2) dL_law_893 (by decide) ?_
      refine j_iadd (pc := 894) dL_law_894 ?_
      refine j_aldS (pc := 895) dL_law_895 hX rfl (fun x136 => ?_)
      refine j_callV (pc := 896) (own := RL) [sI x135, sI x136] [] dL_law_896 lc_L_95 lv_X8_felt rfl (m_X8_felt z p1 x135 x136 g) ⟨⟨Nat.le_of_ble_eq_true rfl, Nat.le_of_ble_eq_true rfl⟩, Nat.le_of_ble_eq_true rfl⟩ rfl rfl (fun q137r q137g => ?_)
      refine j_aload_n (pc := 899) 1 dL_law_899 rfl rfl ?_
      refine j_aload_n (pc := 900) 3 dL_law_900 rfl rfl ?_
      refine j_iload_n (pc := 901) 0 dL_law_901 rfl rfl ?_
      refine j_iconst (pc := 902) (v := 1) dL_law_902 (by decide) ?_
      refine j_iadd (pc := 903) dL_law_903 ?_
      refine j_aldS (pc := 904) dL_law_904 hX rfl (fun x138 => ?_)
      refine j_aload_n (pc := 905) 3 dL_law_905 rfl rfl ?_
      refine j_iload_n (pc := 906) 0 dL_law_906 rfl rfl ?_
      refine j_iconst (pc := 907) (v := 2) dL_law_907 (by decide) ?_
      refine j_iadd (pc := 908) dL_law_908 ?_
      refine j_aldS (pc := 909) dL_law_909 hX rfl (fun x139 => ?_)
      refine j_callV (pc := 910) (own := RL) [sI x138, sI x139] [sI q137r] dL_law_910 lc_L_98 lv_X9_felt rfl (m_X9_felt z p2 x138 x139 q137g) ⟨⟨Nat.le_of_ble_eq_true rfl, Nat.le_of_ble_eq_true rfl⟩, Nat.le_of_ble_eq_true rfl⟩ rfl rfl (fun q140r q140g => ?_)
      refine j_icmp_eq (pc := 913) (tgt := 1215) dL_law_913 (by decide) rfl (fun hc => ?_) (fun hc => ?_)
      · refine j_iinc (pc := 1215) (v := (v3 + 6)) (lv' := [(3, sI (v3 + 6)), (2, sR p2), (1, sR p1), (0, sR p0)]) 0 dL_law_1215 rfl rfl (by decide) rfl ?_
        refine j_goto (pc := 1218) (tgt := 18) dL_law_1218 (by decide) ?_
        exact hr (v3 + 6) q140g
      · refine j_iconst (pc := 916) (v := 0) dL_law_916 (by decide) ?_
        exact j_lawret dL_law_917 hX rfl
    · refine j_aload_n (pc := 918) 2 dL_law_918 rfl rfl ?_
      refine j_aload_n (pc := 919) 3 dL_law_919 rfl rfl ?_
      refine j_iload_n (pc := 920) 0 dL_law_920 rfl rfl ?_
      refine j_iconst (pc := 921) (v := 1) dL_law_921 (by decide) ?_
      refine j_iadd (pc := 922) dL_law_922 ?_
      refine j_aldS (pc := 923) dL_law_923 hX rfl (fun x141 => ?_)
      refine j_aload_n (pc := 924) 3 dL_law_924 rfl rfl ?_
      refine j_iload_n (pc := 925) 0 dL_law_925 rfl rfl ?_
      refine j_iconst (pc := 926) (v := 2) dL_law_926 (by decide) ?_
      refine j_iadd (pc := 927) dL_law_927 ?_
      refine j_aldS (pc := 928) dL_law_928 hX rfl (fun x142 => ?_)
      refine j_callV (pc := 929) (own := RL) [sI x141, sI x142] [] dL_law_929 lc_L_99 lv_X8_level rfl (m_X8_level z p1 x141 x142 g) ⟨⟨Nat.le_of_ble_eq_true rfl, Nat.le_of_ble_eq_true rfl⟩, Nat.le_of_ble_eq_true rfl⟩ rfl rfl (fun q143r q143g => ?_)
      refine j_aload_n (pc := 932) 1 dL_law_932 rfl rfl ?_
      refine j_aload_n (pc := 933) 3 dL_law_933 rfl rfl ?_
      refine j_iload_n (pc := 934) 0 dL_law_934 rfl rfl ?_
      refine j_iconst (pc := 935) (v := 1) dL_law_935 (by decide) ?_
      refine j_iadd (pc := 936) dL_law_936 ?_
      refine j_aldS (pc := 937) dL_law_937 hX rfl (fun x144 => ?_)
      refine j_aload_n (pc := 938) 3 dL_law_938 rfl rfl ?_
      refine j_iload_n (pc := 939) 0 dL_law_939 rfl rfl ?_
      refine j_iconst (pc := 940) (v := 2) dL_law_940 (by decide) ?_
      refine j_iadd (pc := 941) dL_law_941 ?_
      refine j_aldS (pc := 942) dL_law_942 hX rfl (fun x145 => ?_)
      refine j_callV (pc := 943) (own := RL) [sI x144, sI x145] [sI q143r] dL_law_943 lc_L_102 lv_X9_level rfl (m_X9_level z p2 x144 x145 q143g) ⟨⟨Nat.le_of_ble_eq_true rfl, Nat.le_of_ble_eq_true rfl⟩, Nat.le_of_ble_eq_true rfl⟩ rfl rfl (fun q146r q146g => ?_)
      refine j_icmp_eq (pc := 946) (tgt := 1215) dL_law_946 (by decide) rfl (fun hc => ?_) (fun hc => ?_)
      · refine j_iinc (pc := 1215) (v := (v3 + 6)) (lv' := [(3, sI (v3 + 6)), (2, sR p2), (1, sR p1), (0, sR p0)]) 0 dL_law_1215 rfl rfl (by decide) rfl ?_
        refine j_goto (pc := 1218) (tgt := 18) dL_law_1218 (by decide) ?_
        exact hr (v3 + 6) q146g
      · refine j_iconst (pc := 949) (v := 0) dL_law_949 (by decide) ?_
        exact j_lawret dL_law_950 hX rfl
    · refine j_aload_n (pc := 951) 2 dL_law_951 rfl rfl ?_
      refine j_callV (pc := 952) (own := RL) [] [] dL_law_952 lc_L_103 lv_X8_warn rfl (m_X8_warn z p1 g) ⟨⟨Nat.le_of_ble_eq_true rfl, Nat.le_of_ble_eq_true rfl⟩, Nat.le_of_ble_eq_true rfl⟩ rfl rfl (fun q147r q147g => ?_)
      refine j_aload_n (pc := 955) 1 dL_law_955 rfl rfl ?_
      refine j_callV (pc := 956) (own := RL) [] [sI q147r] dL_law_956 lc_L_107 lv_X9_warn rfl (m_X9_warn z p2 q147g) ⟨⟨Nat.le_of_ble_eq_true rfl, Nat.le_of_ble_eq_true rfl⟩, Nat.le_of_ble_eq_true rfl⟩ rfl rfl (fun q148r q148g => ?_)
      refine j_icmp_eq (pc := 959) (tgt := 1215) dL_law_959 (by decide) rfl (fun hc => ?_) (fun hc => ?_)
      · refine j_iinc (pc := 1215) (v := (v3 + 6)) (lv' := [(3, sI (v3 + 6)), (2, sR p2), (1, sR p1), (0, sR p0)]) 0 dL_law_1215 rfl rfl (by decide) rfl ?_
        refine j_goto (pc := 1218) (tgt := 18) dL_law_1218 (by decide) ?_
        exact hr (v3 + 6) q148g
      · refine j_iconst (pc := 962) (v := 0) dL_law_962 (by decide) ?_
        exact j_lawret dL_law_963 hX rfl
    · refine j_aload_n (pc := 964) 2 dL_law_964 rfl rfl ?_
      refine j_aload_n (pc := 965) 3 dL_law_965 rfl rfl ?_
      refine j_iload_n (pc := 966) 0 dL_law_966 rfl rfl ?_
      refine j_iconst (pc := 967) (v := 1) dL_law_967 (by decide) ?_
      refine j_iadd (pc := 968) dL_law_968 ?_
      refine j_aldS (pc := 969) dL_law_969 hX rfl (fun x149 => ?_)
      refine j_aload_n (pc := 970) 3 dL_law_970 rfl rfl ?_
      refine j_iload_n (pc := 971) 0 dL_law_971 rfl rfl ?_
      refine j_iconst (pc := 972) (v := 2) dL_law_972 (by decide) ?_
      refine j_iadd (pc := 973) dL_law_973 ?_
      refine j_aldS (pc := 974) dL_law_974 hX rfl (fun x150 => ?_)
      refine j_callV (pc := 975) (own := RL) [sI x149, sI x150] [] dL_law_975 lc_L_108 lv_X8_drill rfl (m_X8_drill z p1 x149 x150 g) ⟨⟨Nat.le_of_ble_eq_true rfl, Nat.le_of_ble_eq_true rfl⟩, Nat.le_of_ble_eq_true rfl⟩ rfl rfl (fun q151r q151g => ?_)
      refine j_aload_n (pc := 978) 1 dL_law_978 rfl rfl ?_
      refine j_aload_n (pc := 979) 3 dL_law_979 rfl rfl ?_
      refine j_iload_n (pc := 980) 0 dL_law_980 rfl rfl ?_
      refine j_iconst (pc := 981) (v := 1) dL_law_981 (by decide) ?_
      refine j_iadd (pc := 982) dL_law_982 ?_
      refine j_aldS (pc := 983) dL_law_983 hX rfl (fun x152 => ?_)
      refine j_aload_n (pc := 984) 3 dL_law_984 rfl rfl ?_
      refine j_iload_n (pc := 985) 0 dL_law_985 rfl rfl ?_
      refine j_iconst (pc := 986) (v := 2) dL_law_986 (by decide) ?_
      refine j_iadd (pc := 987) dL_law_987 ?_
      refine j_aldS (pc := 988) dL_law_988 hX rfl (fun x153 => ?_)
      refine j_callV (pc := 989) (own := RL) [sI x152, sI x153] [sI q151r] dL_law_989 lc_L_111 lv_X9_drill rfl (m_X9_drill z p2 x152 x153 q151g) ⟨⟨Nat.le_of_ble_eq_true rfl, Nat.le_of_ble_eq_true rfl⟩, Nat.le_of_ble_eq_true rfl⟩ rfl rfl (fun q154r q154g => ?_)
      refine j_icmp_eq (pc := 992) (tgt := 1215) dL_law_992 (by decide) rfl (fun hc => ?_) (fun hc => ?_)
      · refine j_iinc (pc := 1215) (v := (v3 + 6)) (lv' := [(3, sI (v3 + 6)), (2, sR p2), (1, sR p1), (0, sR p0)]) 0 dL_law_1215 rfl rfl (by decide) rfl ?_
        refine j_goto (pc := 1218) (tgt := 18) dL_law_1218 (by decide) ?_
        exact hr (v3 + 6) q154g
      · refine j_iconst (pc := 995) (v := 0) dL_law_995 (by decide) ?_
        exact j_lawret dL_law_996 hX rfl
    · refine j_aload_n (pc := 997) 2 dL_law_997 rfl rfl ?_
      refine j_aload_n (pc := 998) 3 dL_law_998 rfl rfl ?_
      refine j_iload_n (pc := 999) 0 dL_law_999 rfl rfl ?_
      refine j_iconst (pc := 1000) (v := 1) dL_law_1000 (by decide) ?_
      refine j_iadd (pc := 1001) dL_law_1001 ?_
      refine j_aldS (pc := 1002) dL_law_1002 hX rfl (fun x155 => ?_)
      refine j_aload_n (pc := 1003) 3 dL_law_1003 rfl rfl ?_
      refine j_iload_n (pc := 1004) 0 dL_law_1004 rfl rfl ?_
      refine j_iconst (pc := 1005) (v := 2) dL_law_1005 (by decide) ?_
      refine j_iadd (pc := 1006) dL_law_1006 ?_
      refine j_aldS (pc := 1007) dL_law_1007 hX rfl (fun x156 => ?_)
      refine j_callV (pc := 1008) (own := RL) [sI x155, sI x156] [] dL_law_1008 lc_L_112 lv_X8_message rfl (m_X8_message z p1 x155 x156 g) ⟨⟨Nat.le_of_ble_eq_true rfl, Nat.le_of_ble_eq_true rfl⟩, Nat.le_of_ble_eq_true rfl⟩ rfl rfl (fun q157r q157g => ?_)
      refine j_aload_n (pc := 1011) 1 dL_law_1011 rfl rfl ?_
      refine j_aload_n (pc := 1012) 3 dL_law_1012 rfl rfl ?_
      refine j_iload_n (pc := 1013) 0 dL_law_1013 rfl rfl ?_
      refine j_iconst (pc := 1014) (v := 1) dL_law_1014 (by decide) ?_
      refine j_iadd (pc := 1015) dL_law_1015 ?_
      refine j_aldS (pc := 1016) dL_law_1016 hX rfl (fun x158 => ?_)
      refine j_aload_n (pc := 1017) 3 dL_law_1017 rfl rfl ?_
      refine j_iload_n (pc := 1018) 0 dL_law_1018 rfl rfl ?_
      refine j_iconst (pc := 1019) (v := 2) dL_law_1019 (by decide) ?_
      refine j_iadd (pc := 1020) dL_law_1020 ?_
      refine j_aldS (pc := 1021) dL_law_1021 hX rfl (fun x159 => ?_)
      refine j_callV (pc := 1022) (own := RL) [sI x158, sI x159] [sI q157r] dL_law_1022 lc_L_115 lv_X9_message rfl (m_X9_message z p2 x158 x159 q157g) ⟨⟨Nat.le_of_ble_eq_true rfl, Nat.le_of_ble_eq_true rfl⟩, Nat.le_of_ble_eq_true rfl⟩ rfl rfl (fun q160r q160g => ?_)
      refine j_icmp_eq (pc := 1025) (tgt := 1215) dL_law_1025 (by decide) rfl (fun hc => ?_) (fun hc => ?_)
      · refine j_iinc (pc := 1215) (v := (v3 + 6)) (lv' := [(3, sI (v3 + 6)), (2, sR p2), (1, sR p1), (0, sR p0)]) 0 dL_law_1215 rfl rfl (by decide) rfl ?_
        refine j_goto (pc := 1218) (tgt := 18) dL_law_1218 (by decide) ?_
        exact hr (v3 + 6) q160g
      · refine j_iconst (pc := 1028) (v := 0) dL_law_1028 (by decide) ?_
        exact j_lawret dL_law_1029 hX rfl
    · refine j_aload_n (pc := 1030) 2 dL_law_1030 rfl rfl ?_
      refine j_aload_n (pc := 1031) 3 dL_law_1031 rfl rfl ?_
      refine j_iload_n (pc := 1032) 0 dL_law_1032 rfl rfl ?_
      refine j_iconst (pc := 1033) (v := 1) dL_law_1033 (by decide) ?_
      refine j_iadd (pc := 1034) dL_law_1034 ?_
      refine j_aldS (pc := 1035) dL_law_1035 hX rfl (fun x161 => ?_)
      refine j_aload_n (pc := 1036) 3 dL_law_1036 rfl rfl ?_
      refine j_iload_n (pc := 1037) 0 dL_law_1037 rfl rfl ?_
      refine j_iconst (pc := 1038) (v := 2) dL_law_1038 (by decide) ?_
      refine j_iadd (pc := 1039) dL_law_1039 ?_
      refine j_aldS (pc := 1040) dL_law_1040 hX rfl (fun x162 => ?_)
      refine j_callV (pc := 1041) (own := RL) [sI x161, sI x162] [] dL_law_1041 lc_L_116 lv_X8_alarm rfl (m_X8_alarm z p1 x161 x162 g) ⟨⟨Nat.le_of_ble_eq_true rfl, Nat.le_of_ble_eq_true rfl⟩, Nat.le_of_ble_eq_true rfl⟩ rfl rfl (fun q163r q163g => ?_)
      refine j_aload_n (pc := 1044) 1 dL_law_1044 rfl rfl ?_
      refine j_aload_n (pc := 1045) 3 dL_law_1045 rfl rfl ?_
      refine j_iload_n (pc := 1046) 0 dL_law_1046 rfl rfl ?_
      refine j_iconst (pc := 1047) (v := 1) dL_law_1047 (by decide) ?_
      refine j_iadd (pc := 1048) dL_law_1048 ?_
      refine j_aldS (pc := 1049) dL_law_1049 hX rfl (fun x164 => ?_)
      refine j_aload_n (pc := 1050) 3 dL_law_1050 rfl rfl ?_
      refine j_iload_n (pc := 1051) 0 dL_law_1051 rfl rfl ?_
      refine j_iconst (pc := 1052) (v := 2) dL_law_1052 (by decide) ?_
      refine j_iadd (pc := 1053) dL_law_1053 ?_
      refine j_aldS (pc := 1054) dL_law_1054 hX rfl (fun x165 => ?_)
      refine j_callV (pc := 1055) (own := RL) [sI x164, sI x165] [sI q163r] dL_law_1055 lc_L_119 lv_X9_alarm rfl (m_X9_alarm z p2 x164 x165 q163g) ⟨⟨Nat.le_of_ble_eq_true rfl, Nat.le_of_ble_eq_true rfl⟩, Nat.le_of_ble_eq_true rfl⟩ rfl rfl (fun q166r q166g => ?_)
      refine j_icmp_eq (pc := 1058) (tgt := 1215) dL_law_1058 (by decide) rfl (fun hc => ?_) (fun hc => ?_)
      · refine j_iinc (pc := 1215) (v := (v3 + 6)) (lv' := [(3, sI (v3 + 6)), (2, sR p2), (1, sR p1), (0, sR p0)]) 0 dL_law_1215 rfl rfl (by decide) rfl ?_
        refine j_goto (pc := 1218) (tgt := 18) dL_law_1218 (by decide) ?_
        exact hr (v3 + 6) q166g
      · refine j_iconst (pc := 1061) (v := 0) dL_law_1061 (by decide) ?_
        exact j_lawret dL_law_1062 hX rfl
    · refine j_aload_n (pc := 1063) 2 dL_law_1063 rfl rfl ?_
      refine j_aload_n (pc := 1064) 3 dL_law_1064 rfl rfl ?_
      refine j_iload_n (pc := 1065) 0 dL_law_1065 rfl rfl ?_
      refine j_iconst (pc := 1066) (v := 1) dL_law_1066 (by decide) ?_
      refine j_iadd (pc := 1067) dL_law_1067 ?_
      refine j_aldS (pc := 1068) dL_law_1068 hX rfl (fun x167 => ?_)
      refine j_aload_n (pc := 1069) 3 dL_law_1069 rfl rfl ?_
      refine j_iload_n (pc := 1070) 0 dL_law_1070 rfl rfl ?_
      refine j_iconst (pc := 1071) (v := 2) dL_law_1071 (by decide) ?_
      refine j_iadd (pc := 1072) dL_law_1072 ?_
      refine j_aldS (pc := 1073) dL_law_1073 hX rfl (fun x168 => ?_)
      refine j_callV (pc := 1074) (own := RL) [sI x167, sI x168] [] dL_law_1074 lc_L_120 lv_X8_late rfl (m_X8_late z p1 x167 x168 g) ⟨⟨Nat.le_of_ble_eq_true rfl, Nat.le_of_ble_eq_true rfl⟩, Nat.le_of_ble_eq_true rfl⟩ rfl rfl (fun q169r q169g => ?_)
      refine j_aload_n (pc := 1077) 1 dL_law_1077 rfl rfl ?_
      refine j_aload_n (pc := 1078) 3 dL_law_1078 rfl rfl ?_
      refine j_iload_n (pc := 1079) 0 dL_law_1079 rfl rfl ?_
      refine j_iconst (pc := 1080) (v := 1) dL_law_1080 (by decide) ?_
      refine j_iadd (pc := 1081) dL_law_1081 ?_
      refine j_aldS (pc := 1082) dL_law_1082 hX rfl (fun x170 => ?_)
      refine j_aload_n (pc := 1083) 3 dL_law_1083 rfl rfl ?_
      refine j_iload_n (pc := 1084) 0 dL_law_1084 rfl rfl ?_
      refine j_iconst (pc := 1085) (v := 2) dL_law_1085 (by decide) ?_
      refine j_iadd (pc := 1086) dL_law_1086 ?_
      refine j_aldS (pc := 1087) dL_law_1087 hX rfl (fun x171 => ?_)
      refine j_callV (pc := 1088) (own := RL) [sI x170, sI x171] [sI q169r] dL_law_1088 lc_L_123 lv_X9_late rfl (m_X9_late z p2 x170 x171 q169g) ⟨⟨Nat.le_of_ble_eq_true rfl, Nat.le_of_ble_eq_true rfl⟩, Nat.le_of_ble_eq_true rfl⟩ rfl rfl (fun q172r q172g => ?_)
      refine j_icmp_eq (pc := 1091) (tgt := 1215) dL_law_1091 (by decide) rfl (fun hc => ?_) (fun hc => ?_)
      · refine j_iinc (pc := 1215) (v := (v3 + 6)) (lv' := [(3, sI (v3 + 6)), (2, sR p2), (1, sR p1), (0, sR p0)]) 0 dL_law_1215 rfl rfl (by decide) rfl ?_
        refine j_goto (pc := 1218) (tgt := 18) dL_law_1218 (by decide) ?_
        exact hr (v3 + 6) q172g
      · refine j_iconst (pc := 1094) (v := 0) dL_law_1094 (by decide) ?_
        exact j_lawret dL_law_1095 hX rfl
    · refine j_aload_n (pc := 1096) 2 dL_law_1096 rfl rfl ?_
      refine j_aload_n (pc := 1097) 3 dL_law_1097 rfl rfl ?_
      refine j_iload_n (pc := 1098) 0 dL_law_1098 rfl rfl ?_
      refine j_iconst (pc := 1099) (v := 1) dL_law_1099 (by decide) ?_
      refine j_iadd (pc := 1100) dL_law_1100 ?_
      refine j_aldS (pc := 1101) dL_law_1101 hX rfl (fun x173 => ?_)
      refine j_aload_n (pc := 1102) 3 dL_law_1102 rfl rfl ?_
      refine j_iload_n (pc := 1103) 0 dL_law_1103 rfl rfl ?_
      refine j_iconst (pc := 1104) (v := 2) dL_law_1104 (by decide) ?_
      refine j_iadd (pc := 1105) dL_law_1105 ?_
      refine j_aldS (pc := 1106) dL_law_1106 hX rfl (fun x174 => ?_)
      refine j_callV (pc := 1107) (own := RL) [sI x173, sI x174] [] dL_law_1107 lc_L_124 lv_X8_left rfl (m_X8_left z p1 x173 x174 g) ⟨⟨Nat.le_of_ble_eq_true rfl, Nat.le_of_ble_eq_true rfl⟩, Nat.le_of_ble_eq_true rfl⟩ rfl rfl (fun q175r q175g => ?_)
      refine j_aload_n (pc := 1110) 1 dL_law_1110 rfl rfl ?_
      refine j_aload_n (pc := 1111) 3 dL_law_1111 rfl rfl ?_
      refine j_iload_n (pc := 1112) 0 dL_law_1112 rfl rfl ?_
      refine j_iconst (pc := 1113) (v := 1) dL_law_1113 (by decide) ?_
      refine j_iadd (pc := 1114) dL_law_1114 ?_
      refine j_aldS (pc := 1115) dL_law_1115 hX rfl (fun x176 => ?_)
      refine j_aload_n (pc := 1116) 3 dL_law_1116 rfl rfl ?_
      refine j_iload_n (pc := 1117) 0 dL_law_1117 rfl rfl ?_
      refine j_iconst (pc := 1118) (v := 2) dL_law_1118 (by decide) ?_
      refine j_iadd (pc := 1119) dL_law_1119 ?_
      refine j_aldS (pc := 1120) dL_law_1120 hX rfl (fun x177 => ?_)
      refine j_callV (pc := 1121) (own := RL) [sI x176, sI x177] [sI q175r] dL_law_1121 lc_L_127 lv_X9_left rfl (m_X9_left z p2 x176 x177 q175g) ⟨⟨Nat.le_of_ble_eq_true rfl, Nat.le_of_ble_eq_true rfl⟩, Nat.le_of_ble_eq_true rfl⟩ rfl rfl (fun q178r q178g => ?_)
      refine j_icmp_eq (pc := 1124) (tgt := 1215) dL_law_1124 (by decide) rfl (fun hc => ?_) (fun hc => ?_)
      · refine j_iinc (pc := 1215) (v := (v3 + 6)) (lv' := [(3, sI (v3 + 6)), (2, sR p2), (1, sR p1), (0, sR p0)]) 0 dL_law_1215 rfl rfl (by decide) rfl ?_
        refine j_goto (pc := 1218) (tgt := 18) dL_law_1218 (by decide) ?_
        exact hr (v3 + 6) q178g
      · refine j_iconst (pc := 1127) (v := 0) dL_law_1127 (by decide) ?_
        exact j_lawret dL_law_1128 hX rfl
    · refine j_aload_n (pc := 1129) 2 dL_law_1129 rfl rfl ?_
      refine j_callV (pc := 1130) (own := RL) [] [] dL_law_1130 lc_L_128 lv_X8_asked rfl (m_X8_asked z p1 g) ⟨⟨Nat.le_of_ble_eq_true rfl, Nat.le_of_ble_eq_true rfl⟩, Nat.le_of_ble_eq_true rfl⟩ rfl rfl (fun q179r q179g => ?_)
      refine j_aload_n (pc := 1133) 1 dL_law_1133 rfl rfl ?_
      refine j_callV (pc := 1134) (own := RL) [] [sI q179r] dL_law_1134 lc_L_131 lv_X9_asked rfl (m_X9_asked z p2 q179g) ⟨⟨Nat.le_of_ble_eq_true rfl, Nat.le_of_ble_eq_true rfl⟩, Nat.le_of_ble_eq_true rfl⟩ rfl rfl (fun q180r q180g => ?_)
      refine j_icmp_eq (pc := 1137) (tgt := 1215) dL_law_1137 (by decide) rfl (fun hc => ?_) (fun hc => ?_)
      · refine j_iinc (pc := 1215) (v := (v3 + 6)) (lv' := [(3, sI (v3 + 6)), (2, sR p2), (1, sR p1), (0, sR p0)]) 0 dL_law_1215 rfl rfl (by decide) rfl ?_
        refine j_goto (pc := 1218) (tgt := 18) dL_law_1218 (by decide) ?_
        exact hr (v3 + 6) q180g
      · refine j_iconst (pc := 1140) (v := 0) dL_law_1140 (by decide) ?_
        exact j_lawret dL_law_1141 hX rfl
    · refine j_aload_n (pc := 1142) 2 dL_law_1142 rfl rfl ?_
      refine j_aload_n (pc := 1143) 3 dL_law_1143 rfl rfl ?_
      refine j_iload_n (pc := 1144) 0 dL_law_1144 rfl rfl ?_
      refine j_iconst (pc := 1145) (v := 1) dL_law_1145 (by decide) ?_
      refine j_iadd (pc := 1146) dL_law_1146 ?_
      refine j_aldS (pc := 1147) dL_law_1147 hX rfl (fun x181 => ?_)
      refine j_callV (pc := 1148) (own := RL) [sI x181] [] dL_law_1148 lc_L_132 lv_X8_count rfl (m_X8_count z p1 x181 g) ⟨⟨Nat.le_of_ble_eq_true rfl, Nat.le_of_ble_eq_true rfl⟩, Nat.le_of_ble_eq_true rfl⟩ rfl rfl (fun q182r q182g => ?_)
      refine j_aload_n (pc := 1151) 1 dL_law_1151 rfl rfl ?_
      refine j_aload_n (pc := 1152) 3 dL_law_1152 rfl rfl ?_
      refine j_iload_n (pc := 1153) 0 dL_law_1153 rfl rfl ?_
      refine j_iconst (pc := 1154) (v := 1) dL_law_1154 (by decide) ?_
      refine j_iadd (pc := 1155) dL_law_1155 ?_
      refine j_aldS (pc := 1156) dL_law_1156 hX rfl (fun x183 => ?_)
      refine j_callV (pc := 1157) (own := RL) [sI x183] [sI q182r] dL_law_1157 lc_L_135 lv_X9_count rfl (m_X9_count z p2 x183 q182g) ⟨⟨Nat.le_of_ble_eq_true rfl, Nat.le_of_ble_eq_true rfl⟩, Nat.le_of_ble_eq_true rfl⟩ rfl rfl (fun q184r q184g => ?_)
      refine j_icmp_eq (pc := 1160) (tgt := 1215) dL_law_1160 (by decide) rfl (fun hc => ?_) (fun hc => ?_)
      · refine j_iinc (pc := 1215) (v := (v3 + 6)) (lv' := [(3, sI (v3 + 6)), (2, sR p2), (1, sR p1), (0, sR p0)]) 0 dL_law_1215 rfl rfl (by decide) rfl ?_
        refine j_goto (pc := 1218) (tgt := 18) dL_law_1218 (by decide) ?_
        exact hr (v3 + 6) q184g
      · refine j_iconst (pc := 1163) (v := 0) dL_law_1163 (by decide) ?_
        exact j_lawret dL_law_1164 hX rfl
    · refine j_aload_n (pc := 1165) 2 dL_law_1165 rfl rfl ?_
      refine j_callV (pc := 1166) (own := RL) [] [] dL_law_1166 lc_L_136 lv_X8_finding rfl (m_X8_finding z p1 g) ⟨⟨Nat.le_of_ble_eq_true rfl, Nat.le_of_ble_eq_true rfl⟩, Nat.le_of_ble_eq_true rfl⟩ rfl rfl (fun q185r q185g => ?_)
      refine j_aload_n (pc := 1169) 1 dL_law_1169 rfl rfl ?_
      refine j_callV (pc := 1170) (own := RL) [] [sI q185r] dL_law_1170 lc_L_139 lv_X9_finding rfl (m_X9_finding z p2 q185g) ⟨⟨Nat.le_of_ble_eq_true rfl, Nat.le_of_ble_eq_true rfl⟩, Nat.le_of_ble_eq_true rfl⟩ rfl rfl (fun q186r q186g => ?_)
      refine j_icmp_eq (pc := 1173) (tgt := 1215) dL_law_1173 (by decide) rfl (fun hc => ?_) (fun hc => ?_)
      · refine j_iinc (pc := 1215) (v := (v3 + 6)) (lv' := [(3, sI (v3 + 6)), (2, sR p2), (1, sR p1), (0, sR p0)]) 0 dL_law_1215 rfl rfl (by decide) rfl ?_
        refine j_goto (pc := 1218) (tgt := 18) dL_law_1218 (by decide) ?_
        exact hr (v3 + 6) q186g
      · refine j_iconst (pc := 1176) (v := 0) dL_law_1176 (by decide) ?_
        exact j_lawret dL_law_1177 hX rfl
    · refine j_aload_n (pc := 1178) 2 dL_law_1178 rfl rfl ?_
      refine j_aload_n (pc := 1179) 3 dL_law_1179 rfl rfl ?_
      refine j_iload_n (pc := 1180) 0 dL_law_1180 rfl rfl ?_
      refine j_iconst (pc := 1181) (v := 1) dL_law_1181 (by decide) ?_
      refine j_iadd (pc := 1182) dL_law_1182 ?_
      refine j_aldS (pc := 1183) dL_law_1183 hX rfl (fun x187 => ?_)
      refine j_callV (pc := 1184) (own := RL) [sI x187] [] dL_law_1184 lc_L_140 lv_X8_findings rfl (m_X8_findings z p1 x187 g) ⟨⟨Nat.le_of_ble_eq_true rfl, Nat.le_of_ble_eq_true rfl⟩, Nat.le_of_ble_eq_true rfl⟩ rfl rfl (fun q188r q188g => ?_)
      refine j_aload_n (pc := 1187) 1 dL_law_1187 rfl rfl ?_
      refine j_aload_n (pc := 1188) 3 dL_law_1188 rfl rfl ?_
      refine j_iload_n (pc := 1189) 0 dL_law_1189 rfl rfl ?_
      refine j_iconst (pc := 1190) (v := 1) dL_law_1190 (by decide) ?_
      refine j_iadd (pc := 1191) dL_law_1191 ?_
      refine j_aldS (pc := 1192) dL_law_1192 hX rfl (fun x189 => ?_)
      refine j_callV (pc := 1193) (own := RL) [sI x189] [sI q188r] dL_law_1193 lc_L_143 lv_X9_findings rfl (m_X9_findings z p2 x189 q188g) ⟨⟨Nat.le_of_ble_eq_true rfl, Nat.le_of_ble_eq_true rfl⟩, Nat.le_of_ble_eq_true rfl⟩ rfl rfl (fun q190r q190g => ?_)
      refine j_icmp_eq (pc := 1196) (tgt := 1215) dL_law_1196 (by decide) rfl (fun hc => ?_) (fun hc => ?_)
      · refine j_iinc (pc := 1215) (v := (v3 + 6)) (lv' := [(3, sI (v3 + 6)), (2, sR p2), (1, sR p1), (0, sR p0)]) 0 dL_law_1215 rfl rfl (by decide) rfl ?_
        refine j_goto (pc := 1218) (tgt := 18) dL_law_1218 (by decide) ?_
        exact hr (v3 + 6) q190g
      · refine j_iconst (pc := 1199) (v := 0) dL_law_1199 (by decide) ?_
        exact j_lawret dL_law_1200 hX rfl
    · refine j_aload_n (pc := 1201) 2 dL_law_1201 rfl rfl ?_
      refine j_callV (pc := 1202) (own := RL) [] [] dL_law_1202 lc_L_144 lv_X8_digest rfl (m_X8_digest z p1 g) ⟨⟨Nat.le_of_ble_eq_true rfl, Nat.le_of_ble_eq_true rfl⟩, Nat.le_of_ble_eq_true rfl⟩ rfl rfl (fun q191r q191g => ?_)
      refine j_aload_n (pc := 1205) 1 dL_law_1205 rfl rfl ?_
      refine j_callV (pc := 1206) (own := RL) [] [sL q191r] dL_law_1206 lc_L_148 lv_X9_digest rfl (m_X9_digest z p2 q191g) ⟨⟨Nat.le_of_ble_eq_true rfl, Nat.le_of_ble_eq_true rfl⟩, Nat.le_of_ble_eq_true rfl⟩ rfl rfl (fun q192r q192g => ?_)
      refine j_lcmp (pc := 1209) dL_law_1209 ?_
      refine j_if_eq (pc := 1210) (tgt := 1215) dL_law_1210 (by decide) rfl (fun hc => ?_) (fun hc => ?_)
      · refine j_iinc (pc := 1215) (v := (v3 + 6)) (lv' := [(3, sI (v3 + 6)), (2, sR p2), (1, sR p1), (0, sR p0)]) 0 dL_law_1215 rfl rfl (by decide) rfl ?_
        refine j_goto (pc := 1218) (tgt := 18) dL_law_1218 (by decide) ?_
        exact hr (v3 + 6) q192g
      · refine j_iconst (pc := 1213) (v := 0) dL_law_1213 (by decide) ?_
        exact j_lawret dL_law_1214 hX rfl
set_option maxRecDepth 20000 in
theorem l_L_law_18 {X : Xt Int32} {L : Nat} {xs : Nat → Int32} (hX : IsL X L xs) (z : Nat) (p2 : Option Nm) (p1 : Option Nm) (p0 : Option Nm) : ∀ (n : Nat) (v3 : Int32) (g : Hp), J yL_law cL_law 4 (some .boolean) 12 458 X g 18 [(3, sI v3), (2, sR p2), (1, sR p1), (0, sR p0)] [] (f_L_law_18_L z L xs p2 p1 p0 n v3 g)
  | 0, _, _ => J.none
  | n + 1, v3, g => b_L_law_18 hX z p2 p1 p0 _ (fun v3 g => l_L_law_18 hX z p2 p1 p0 n v3 g) v3 g
set_option maxRecDepth 20000 in
theorem m_L_law {X : Xt Int32} {L : Nat} {xs : Nat → Int32} (hX : IsL X L xs) (z : Nat) (a0 : Option Nm) (g : Hp) : J yL_law cL_law 4 (some .boolean) 12 458 X g 0 [(0, sR a0)] [] (f_L_law z L xs a0 g) := by
  unfold f_L_law
  refine j_mkO (pc := 0) (own := RL) dL_law_0 ln_L_7 rfl rfl (fun q1r q1g => ?_)
  refine j_dup (pc := 3) dL_law_3 rfl ?_
  refine j_callI (pc := 4) (own := RL) [] [sR q1r] dL_law_4 lc_L_9 li_X8_init rfl (m_X8_init z q1r q1g) ⟨⟨Nat.le_of_ble_eq_true rfl, Nat.le_of_ble_eq_true rfl⟩, Nat.le_of_ble_eq_true rfl⟩ rfl rfl (fun q2r q2g => ?_)
  refine j_astore_n (pc := 7) (lv' := [(1, sR q1r), (0, sR a0)]) dL_law_7 rfl (by decide) rfl ?_
  refine j_mkO (pc := 8) (own := RL) dL_law_8 ln_L_10 rfl rfl (fun q3r q3g => ?_)
  refine j_dup (pc := 11) dL_law_11 rfl ?_
  refine j_callI (pc := 12) (own := RL) [] [sR q3r] dL_law_12 lc_L_12 li_X9_init rfl (m_X9_init z q3r q3g) ⟨⟨Nat.le_of_ble_eq_true rfl, Nat.le_of_ble_eq_true rfl⟩, Nat.le_of_ble_eq_true rfl⟩ rfl rfl (fun q4r q4g => ?_)
  refine j_astore_n (pc := 15) (lv' := [(2, sR q3r), (1, sR q1r), (0, sR a0)]) dL_law_15 rfl (by decide) rfl ?_
  refine j_iconst (pc := 16) (v := 0) dL_law_16 (by decide) ?_
  refine j_istore_n (pc := 17) (lv' := [(3, sI 0), (2, sR q3r), (1, sR q1r), (0, sR a0)]) dL_law_17 rfl (by decide) rfl ?_
  exact l_L_law_18 hX z q3r q1r a0 z 0 q4g
