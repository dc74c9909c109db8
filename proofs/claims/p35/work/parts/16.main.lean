/-! by program: words of the tables -/
set_option maxRecDepth 20000 in
theorem lo_X8_3 : FLI RX8 3 := ⟨⟨List.mem_append_right _ (List.mem_of_getElem? (i := 24) (by decide +kernel)), rfl⟩, ⟨List.mem_append_right _ (List.mem_of_getElem? (i := 25) (by decide +kernel)), rfl⟩, ⟨List.mem_append_right _ (List.mem_of_getElem? (i := 26) (by decide +kernel)), rfl⟩⟩
set_option maxRecDepth 20000 in
theorem ln_X8_9 : FLN RX8 9 8 := ⟨RX7, TX7, 1, tyX7, ⟨rfl, by decide, rfl⟩, tyX7_ok, (fun j hj b hb => by
  obtain rfl : j = 0 := (by omega)
  skip <;> (cases hb; rfl)), inTX7, ⟨List.mem_append_right _ (List.mem_of_getElem? (i := 27) (by decide +kernel)), rfl⟩, ⟨List.mem_append_right _ (List.mem_of_getElem? (i := 28) (by decide +kernel)), rfl⟩, ⟨List.mem_append_right _ (List.mem_of_getElem? (i := 2) (by decide +kernel)), rfl⟩⟩
set_option maxRecDepth 20000 in
theorem lc_X8_11 : FLC RX8 11 yX7_init cX7_init 2 none 1 := ⟨Or.inr ⟨RX8, List.mem_append_right _ (List.mem_of_getElem? (i := 29) (by decide +kernel))⟩, ⟨List.mem_append_right _ (List.mem_of_getElem? (i := 31) (by decide +kernel)), rfl⟩, ⟨List.mem_append_right _ (List.mem_of_getElem? (i := 2) (by decide +kernel)), rfl⟩, ⟨⟨by decide +kernel, by decide +kernel⟩, by decide +kernel⟩⟩
set_option maxRecDepth 20000 in
theorem li_X7_init : FLN0 yX7_init := ⟨by decide +kernel, List.mem_append_right _ (List.mem_of_getElem? (i := 30) (by decide +kernel)), rfl⟩
set_option maxRecDepth 20000 in
theorem inTX8 : ∀ w ∈ u_ws RX8 TX8 14, w ∈ lw_tbl ∧ okW w = true := List.forall_mem_map.mpr fun k hk => by
  have hk2 := List.mem_range.mp hk
  rcases (show k = 0 ∨ k = 1 ∨ k = 2 ∨ k = 3 ∨ k = 4 ∨ k = 5 ∨ k = 6 ∨ k = 7 ∨ k = 8 ∨ k = 9 ∨ k = 10 ∨ k = 11 ∨ k = 12 ∨ k = 13 by omega) with rfl | rfl | rfl | rfl | rfl | rfl | rfl | rfl | rfl | rfl | rfl | rfl | rfl | rfl
  · exact ⟨List.mem_append_right _ (List.mem_of_getElem? (i := 114) (by decide +kernel)), rfl⟩
  · exact ⟨List.mem_append_right _ (List.mem_of_getElem? (i := 116) (by decide +kernel)), rfl⟩
  · exact ⟨List.mem_append_right _ (List.mem_of_getElem? (i := 118) (by decide +kernel)), rfl⟩
  · exact ⟨List.mem_append_right _ (List.mem_of_getElem? (i := 120) (by decide +kernel)), rfl⟩
  · exact ⟨List.mem_append_right _ (List.mem_of_getElem? (i := 122) (by decide +kernel)), rfl⟩
  · exact ⟨List.mem_append_right _ (List.mem_of_getElem? (i := 124) (by decide +kernel)), rfl⟩
  · exact ⟨List.mem_append_right _ (List.mem_of_getElem? (i := 126) (by decide +kernel)), rfl⟩
  · exact ⟨List.mem_append_right _ (List.mem_of_getElem? (i := 128) (by decide +kernel)), rfl⟩
  · exact ⟨List.mem_append_right _ (List.mem_of_getElem? (i := 130) (by decide +kernel)), rfl⟩
  · exact ⟨List.mem_append_right _ (List.mem_of_getElem? (i := 132) (by decide +kernel)), rfl⟩
  · exact ⟨List.mem_append_right _ (List.mem_of_getElem? (i := 134) (by decide +kernel)), rfl⟩
  · exact ⟨List.mem_append_right _ (List.mem_of_getElem? (i := 136) (by decide +kernel)), rfl⟩
  · exact ⟨List.mem_append_right _ (List.mem_of_getElem? (i := 138) (by decide +kernel)), rfl⟩
  · exact ⟨List.mem_append_right _ (List.mem_of_getElem? (i := 140) (by decide +kernel)), rfl⟩
set_option maxRecDepth 20000 in
theorem lf_X8_14 : FLK RX8 14 9 0 true := ⟨RX8, TX8, 14, RX8, ⟨rfl, by decide, rfl, by decide⟩, inTX8, Or.inl ⟨List.mem_append_right _ (List.mem_of_getElem? (i := 102) (by decide +kernel)), rfl⟩, Or.inl rfl⟩
set_option maxRecDepth 20000 in
theorem lt_9_0 : FLT 9 0 (.object "FirstSeconds$Travels") := ⟨RX8, TX8, 14, tyX8, rfl, by decide +kernel, tyX8_ok, nmX8⟩
set_option maxRecDepth 20000 in
theorem lw_X8_14_X8_init : FLW yX8_init RX8 14 9 0 := ⟨RX8, TX8, 14, rfl, Or.inr ⟨rfl, rfl, rfl, List.mem_append_right _ (List.mem_of_getElem? (i := 102) (by decide +kernel)), rfl⟩⟩
set_option maxRecDepth 20000 in
theorem ln_X8_18 : FLN RX8 18 0 := ⟨RJx4a65c, TJx4a65c, 3, tyJx4a65c, ⟨rfl, by decide, rfl⟩, tyJx4a65c_ok, (fun j hj b hb => by
  rcases (show j = 0 ∨ j = 1 ∨ j = 2 by omega) with rfl | rfl | rfl <;> (cases hb; rfl)), inTJx4a65c, ⟨List.mem_append_right _ (List.mem_of_getElem? (i := 45) (by decide +kernel)), rfl⟩, ⟨List.mem_append_right _ (List.mem_of_getElem? (i := 46) (by decide +kernel)), rfl⟩, ⟨List.mem_append_right _ (List.mem_of_getElem? (i := 5) (by decide +kernel)), rfl⟩⟩
set_option maxRecDepth 20000 in
theorem lc_X8_20 : FLC RX8 20 yJx4a65c_init_da8c8 cJx4a65c_init_da8c8 1 none 0 := ⟨Or.inl ⟨List.mem_append_right _ (List.mem_of_getElem? (i := 47) (by decide +kernel)), rfl⟩, ⟨List.mem_append_right _ (List.mem_of_getElem? (i := 49) (by decide +kernel)), rfl⟩, ⟨List.mem_append_right _ (List.mem_of_getElem? (i := 5) (by decide +kernel)), rfl⟩, ⟨⟨by decide +kernel, by decide +kernel⟩, by decide +kernel⟩⟩
set_option maxRecDepth 20000 in
theorem li_Jx4a65c_init_da8c8 : FLN0 yJx4a65c_init_da8c8 := ⟨by decide +kernel, List.mem_append_right _ (List.mem_of_getElem? (i := 48) (by decide +kernel)), rfl⟩
set_option maxRecDepth 20000 in
theorem lf_X8_21 : FLK RX8 21 9 1 true := ⟨RX8, TX8, 14, RX8, ⟨rfl, by decide, rfl, by decide⟩, inTX8, Or.inl ⟨List.mem_append_right _ (List.mem_of_getElem? (i := 103) (by decide +kernel)), rfl⟩, Or.inl rfl⟩
set_option maxRecDepth 20000 in
theorem lt_9_1 : FLT 9 1 (.object "java/util/ArrayList") := ⟨RX8, TX8, 14, tyX8, rfl, by decide +kernel, tyX8_ok, nmX8⟩
set_option maxRecDepth 20000 in
theorem lw_X8_21_X8_init : FLW yX8_init RX8 21 9 1 := ⟨RX8, TX8, 14, rfl, Or.inr ⟨rfl, rfl, rfl, List.mem_append_right _ (List.mem_of_getElem? (i := 103) (by decide +kernel)), rfl⟩⟩
set_option maxRecDepth 20000 in
theorem lf_X8_25 : FLK RX8 25 9 2 true := ⟨RX8, TX8, 14, RX8, ⟨rfl, by decide, rfl, by decide⟩, inTX8, Or.inl ⟨List.mem_append_right _ (List.mem_of_getElem? (i := 104) (by decide +kernel)), rfl⟩, Or.inl rfl⟩
set_option maxRecDepth 20000 in
theorem lt_9_2 : FLT 9 2 (.object "java/util/ArrayList") := ⟨RX8, TX8, 14, tyX8, rfl, by decide +kernel, tyX8_ok, nmX8⟩
set_option maxRecDepth 20000 in
theorem lw_X8_25_X8_init : FLW yX8_init RX8 25 9 2 := ⟨RX8, TX8, 14, rfl, Or.inr ⟨rfl, rfl, rfl, List.mem_append_right _ (List.mem_of_getElem? (i := 104) (by decide +kernel)), rfl⟩⟩
set_option maxRecDepth 20000 in
theorem lf_X8_28 : FLK RX8 28 9 3 true := ⟨RX8, TX8, 14, RX8, ⟨rfl, by decide, rfl, by decide⟩, inTX8, Or.inl ⟨List.mem_append_right _ (List.mem_of_getElem? (i := 105) (by decide +kernel)), rfl⟩, Or.inl rfl⟩
set_option maxRecDepth 20000 in
theorem lt_9_3 : FLT 9 3 (.object "java/util/ArrayList") := ⟨RX8, TX8, 14, tyX8, rfl, by decide +kernel, tyX8_ok, nmX8⟩
set_option maxRecDepth 20000 in
theorem lw_X8_28_X8_init : FLW yX8_init RX8 28 9 3 := ⟨RX8, TX8, 14, rfl, Or.inr ⟨rfl, rfl, rfl, List.mem_append_right _ (List.mem_of_getElem? (i := 105) (by decide +kernel)), rfl⟩⟩
set_option maxRecDepth 20000 in
theorem lf_X8_31 : FLK RX8 31 9 4 true := ⟨RX8, TX8, 14, RX8, ⟨rfl, by decide, rfl, by decide⟩, inTX8, Or.inl ⟨List.mem_append_right _ (List.mem_of_getElem? (i := 106) (by decide +kernel)), rfl⟩, Or.inl rfl⟩
set_option maxRecDepth 20000 in
theorem lt_9_4 : FLT 9 4 (.object "java/util/ArrayList") := ⟨RX8, TX8, 14, tyX8, rfl, by decide +kernel, tyX8_ok, nmX8⟩
set_option maxRecDepth 20000 in
theorem lw_X8_31_X8_init : FLW yX8_init RX8 31 9 4 := ⟨RX8, TX8, 14, rfl, Or.inr ⟨rfl, rfl, rfl, List.mem_append_right _ (List.mem_of_getElem? (i := 106) (by decide +kernel)), rfl⟩⟩
set_option maxRecDepth 20000 in
theorem lf_X8_34 : FLK RX8 34 9 5 true := ⟨RX8, TX8, 14, RX8, ⟨rfl, by decide, rfl, by decide⟩, inTX8, Or.inl ⟨List.mem_append_right _ (List.mem_of_getElem? (i := 107) (by decide +kernel)), rfl⟩, Or.inl rfl⟩
set_option maxRecDepth 20000 in
theorem lt_9_5 : FLT 9 5 (.object "java/util/ArrayList") := ⟨RX8, TX8, 14, tyX8, rfl, by decide +kernel, tyX8_ok, nmX8⟩
set_option maxRecDepth 20000 in
theorem lw_X8_34_X8_init : FLW yX8_init RX8 34 9 5 := ⟨RX8, TX8, 14, rfl, Or.inr ⟨rfl, rfl, rfl, List.mem_append_right _ (List.mem_of_getElem? (i := 107) (by decide +kernel)), rfl⟩⟩
set_option maxRecDepth 20000 in
theorem ln_X8_37 : FLN RX8 37 1 := ⟨RX0, TX0, 6, tyX0, ⟨rfl, by decide, rfl⟩, tyX0_ok, (fun j hj b hb => by
  rcases (show j = 0 ∨ j = 1 ∨ j = 2 ∨ j = 3 ∨ j = 4 ∨ j = 5 by omega) with rfl | rfl | rfl | rfl | rfl | rfl <;> (cases hb; rfl)), inTX0, ⟨List.mem_append_right _ (List.mem_of_getElem? (i := 71) (by decide +kernel)), rfl⟩, ⟨List.mem_append_right _ (List.mem_of_getElem? (i := 72) (by decide +kernel)), rfl⟩, ⟨List.mem_append_right _ (List.mem_of_getElem? (i := 6) (by decide +kernel)), rfl⟩⟩
set_option maxRecDepth 20000 in
theorem lc_X8_39 : FLC RX8 39 yX0_init cX0_init 1 none 0 := ⟨Or.inr ⟨RX8, List.mem_append_right _ (List.mem_of_getElem? (i := 73) (by decide +kernel))⟩, ⟨List.mem_append_right _ (List.mem_of_getElem? (i := 75) (by decide +kernel)), rfl⟩, ⟨List.mem_append_right _ (List.mem_of_getElem? (i := 6) (by decide +kernel)), rfl⟩, ⟨⟨by decide +kernel, by decide +kernel⟩, by decide +kernel⟩⟩
set_option maxRecDepth 20000 in
theorem li_X0_init : FLN0 yX0_init := ⟨by decide +kernel, List.mem_append_right _ (List.mem_of_getElem? (i := 74) (by decide +kernel)), rfl⟩
set_option maxRecDepth 20000 in
theorem lf_X8_40 : FLK RX8 40 9 6 true := ⟨RX8, TX8, 14, RX8, ⟨rfl, by decide, rfl, by decide⟩, inTX8, Or.inl ⟨List.mem_append_right _ (List.mem_of_getElem? (i := 108) (by decide +kernel)), rfl⟩, Or.inl rfl⟩
set_option maxRecDepth 20000 in
theorem lt_9_6 : FLT 9 6 (.object "FirstSeconds$Heap") := ⟨RX8, TX8, 14, tyX8, rfl, by decide +kernel, tyX8_ok, nmX8⟩
set_option maxRecDepth 20000 in
theorem lw_X8_40_X8_init : FLW yX8_init RX8 40 9 6 := ⟨RX8, TX8, 14, rfl, Or.inr ⟨rfl, rfl, rfl, List.mem_append_right _ (List.mem_of_getElem? (i := 108) (by decide +kernel)), rfl⟩⟩
set_option maxRecDepth 20000 in
theorem lf_X8_44 : FLK RX8 44 9 7 true := ⟨RX8, TX8, 14, RX8, ⟨rfl, by decide, rfl, by decide⟩, inTX8, Or.inl ⟨List.mem_append_right _ (List.mem_of_getElem? (i := 109) (by decide +kernel)), rfl⟩, Or.inl rfl⟩
set_option maxRecDepth 20000 in
theorem lt_9_7 : FLT 9 7 (.array .int) := ⟨RX8, TX8, 14, tyX8, rfl, by decide +kernel, tyX8_ok, nmX8⟩
set_option maxRecDepth 20000 in
theorem lw_X8_44_X8_init : FLW yX8_init RX8 44 9 7 := ⟨RX8, TX8, 14, rfl, Or.inr ⟨rfl, rfl, rfl, List.mem_append_right _ (List.mem_of_getElem? (i := 109) (by decide +kernel)), rfl⟩⟩
set_option maxRecDepth 20000 in
theorem lf_X8_48 : FLK RX8 48 9 8 true := ⟨RX8, TX8, 14, RX8, ⟨rfl, by decide, rfl, by decide⟩, inTX8, Or.inl ⟨List.mem_append_right _ (List.mem_of_getElem? (i := 110) (by decide +kernel)), rfl⟩, Or.inl rfl⟩
set_option maxRecDepth 20000 in
theorem lt_9_8 : FLT 9 8 (.array .int) := ⟨RX8, TX8, 14, tyX8, rfl, by decide +kernel, tyX8_ok, nmX8⟩
set_option maxRecDepth 20000 in
theorem lw_X8_48_X8_init : FLW yX8_init RX8 48 9 8 := ⟨RX8, TX8, 14, rfl, Or.inr ⟨rfl, rfl, rfl, List.mem_append_right _ (List.mem_of_getElem? (i := 110) (by decide +kernel)), rfl⟩⟩
set_option maxRecDepth 20000 in
theorem lf_X8_51 : FLK RX8 51 9 11 false := ⟨RX8, TX8, 14, RX8, ⟨rfl, by decide, rfl, by decide⟩, inTX8, Or.inl ⟨List.mem_append_right _ (List.mem_of_getElem? (i := 112) (by decide +kernel)), rfl⟩, Or.inl rfl⟩
set_option maxRecDepth 20000 in
theorem lt_9_11 : FLT 9 11 .int := ⟨RX8, TX8, 14, tyX8, rfl, by decide +kernel, tyX8_ok, nmX8⟩
set_option maxRecDepth 20000 in
theorem lw_X8_51_X8_init : FLW yX8_init RX8 51 9 11 := ⟨RX8, TX8, 14, rfl, Or.inl rfl⟩
set_option maxRecDepth 20000 in
theorem lc_X8_55 : FLC RX8 55 yX8_isWithin cX8_isWithin 3 (some .boolean) 3 := ⟨Or.inl ⟨List.mem_append_right _ (List.mem_of_getElem? (i := 147) (by decide +kernel)), rfl⟩, ⟨List.mem_append_right _ (List.mem_of_getElem? (i := 149) (by decide +kernel)), rfl⟩, ⟨List.mem_append_right _ (List.mem_of_getElem? (i := 1) (by decide +kernel)), rfl⟩, ⟨⟨by decide +kernel, by decide +kernel⟩, by decide +kernel⟩⟩
set_option maxRecDepth 20000 in
theorem ls_X8_isWithin : FLS yX8_isWithin := ⟨List.mem_append_right _ (List.mem_of_getElem? (i := 148) (by decide +kernel)), rfl⟩
set_option maxRecDepth 20000 in
theorem lc_X8_59 : FLC RX8 59 yJx4a65c_isEmpty_aae02 cJx4a65c_isEmpty_aae02 1 (some .boolean) 0 := ⟨Or.inl ⟨List.mem_append_right _ (List.mem_of_getElem? (i := 150) (by decide +kernel)), rfl⟩, ⟨List.mem_append_right _ (List.mem_of_getElem? (i := 153) (by decide +kernel)), rfl⟩, ⟨List.mem_append_right _ (List.mem_of_getElem? (i := 5) (by decide +kernel)), rfl⟩, ⟨⟨by decide +kernel, by decide +kernel⟩, by decide +kernel⟩⟩
set_option maxRecDepth 20000 in
theorem lv_Jx4a65c_isEmpty_aae02 : FLV yJx4a65c_isEmpty_aae02 0 := ⟨by decide, by decide +kernel, ⟨List.mem_append_right _ (List.mem_of_getElem? (i := 151) (by decide +kernel)), rfl⟩, ⟨List.mem_append_right _ (List.mem_of_getElem? (i := 152) (by decide +kernel)), rfl⟩⟩
set_option maxRecDepth 20000 in
theorem lc_X8_63 : FLC RX8 63 yX7_reckon cX7_reckon 5 none 1 := ⟨Or.inr ⟨RX8, List.mem_append_right _ (List.mem_of_getElem? (i := 154) (by decide +kernel))⟩, ⟨List.mem_append_right _ (List.mem_of_getElem? (i := 36) (by decide +kernel)), rfl⟩, ⟨List.mem_append_right _ (List.mem_of_getElem? (i := 2) (by decide +kernel)), rfl⟩, ⟨⟨by decide +kernel, by decide +kernel⟩, by decide +kernel⟩⟩
set_option maxRecDepth 20000 in
theorem lw_X8_51_X8_rule : FLW yX8_rule RX8 51 9 11 := ⟨RX8, TX8, 14, rfl, Or.inl rfl⟩
set_option maxRecDepth 20000 in
theorem lc_X8_66 : FLC RX8 66 yX8_isCell cX8_isCell 1 (some .boolean) 1 := ⟨Or.inl ⟨List.mem_append_right _ (List.mem_of_getElem? (i := 159) (by decide +kernel)), rfl⟩, ⟨List.mem_append_right _ (List.mem_of_getElem? (i := 161) (by decide +kernel)), rfl⟩, ⟨List.mem_append_right _ (List.mem_of_getElem? (i := 1) (by decide +kernel)), rfl⟩, ⟨⟨by decide +kernel, by decide +kernel⟩, by decide +kernel⟩⟩
set_option maxRecDepth 20000 in
theorem ls_X8_isCell : FLS yX8_isCell := ⟨List.mem_append_right _ (List.mem_of_getElem? (i := 160) (by decide +kernel)), rfl⟩
set_option maxRecDepth 20000 in
theorem lc_X8_70 : FLC RX8 70 yJx4a65c_size_8abf5 cJx4a65c_size_8abf5 1 (some .int) 0 := ⟨Or.inl ⟨List.mem_append_right _ (List.mem_of_getElem? (i := 162) (by decide +kernel)), rfl⟩, ⟨List.mem_append_right _ (List.mem_of_getElem? (i := 165) (by decide +kernel)), rfl⟩, ⟨List.mem_append_right _ (List.mem_of_getElem? (i := 5) (by decide +kernel)), rfl⟩, ⟨⟨by decide +kernel, by decide +kernel⟩, by decide +kernel⟩⟩
set_option maxRecDepth 20000 in
theorem lv_Jx4a65c_size_8abf5 : FLV yJx4a65c_size_8abf5 0 := ⟨by decide, by decide +kernel, ⟨List.mem_append_right _ (List.mem_of_getElem? (i := 163) (by decide +kernel)), rfl⟩, ⟨List.mem_append_right _ (List.mem_of_getElem? (i := 164) (by decide +kernel)), rfl⟩⟩
set_option maxRecDepth 20000 in
theorem ln_X8_74 : FLN RX8 74 6 := ⟨RX5, TX5, 3, tyX5, ⟨rfl, by decide, rfl⟩, tyX5_ok, (fun j hj b hb => by
  rcases (show j = 0 ∨ j = 1 ∨ j = 2 by omega) with rfl | rfl | rfl <;> (cases hb; rfl)), inTX5, ⟨List.mem_append_right _ (List.mem_of_getElem? (i := 166) (by decide +kernel)), rfl⟩, ⟨List.mem_append_right _ (List.mem_of_getElem? (i := 167) (by decide +kernel)), rfl⟩, ⟨List.mem_append_right _ (List.mem_of_getElem? (i := 12) (by decide +kernel)), rfl⟩⟩
set_option maxRecDepth 20000 in
theorem lc_X8_76 : FLC RX8 76 yX5_init cX5_init 2 none 1 := ⟨Or.inr ⟨RX8, List.mem_append_right _ (List.mem_of_getElem? (i := 168) (by decide +kernel))⟩, ⟨List.mem_append_right _ (List.mem_of_getElem? (i := 170) (by decide +kernel)), rfl⟩, ⟨List.mem_append_right _ (List.mem_of_getElem? (i := 12) (by decide +kernel)), rfl⟩, ⟨⟨by decide +kernel, by decide +kernel⟩, by decide +kernel⟩⟩
set_option maxRecDepth 20000 in
theorem li_X5_init : FLN0 yX5_init := ⟨by decide +kernel, List.mem_append_right _ (List.mem_of_getElem? (i := 169) (by decide +kernel)), rfl⟩
set_option maxRecDepth 20000 in
theorem lc_X8_77 : FLC RX8 77 yJx4a65c_add_9ea2d cJx4a65c_add_9ea2d 2 (some .boolean) 1 := ⟨Or.inl ⟨List.mem_append_right _ (List.mem_of_getElem? (i := 196) (by decide +kernel)), rfl⟩, ⟨List.mem_append_right _ (List.mem_of_getElem? (i := 199) (by decide +kernel)), rfl⟩, ⟨List.mem_append_right _ (List.mem_of_getElem? (i := 5) (by decide +kernel)), rfl⟩, ⟨⟨by decide +kernel, by decide +kernel⟩, by decide +kernel⟩⟩
set_option maxRecDepth 20000 in
theorem lv_Jx4a65c_add_9ea2d : FLV yJx4a65c_add_9ea2d 0 := ⟨by decide, by decide +kernel, ⟨List.mem_append_right _ (List.mem_of_getElem? (i := 197) (by decide +kernel)), rfl⟩, ⟨List.mem_append_right _ (List.mem_of_getElem? (i := 198) (by decide +kernel)), rfl⟩⟩
set_option maxRecDepth 20000 in
theorem ln_X8_81 : FLN RX8 81 7 := ⟨RX6, TX6, 1, tyX6, ⟨rfl, by decide, rfl⟩, tyX6_ok, (fun j hj b hb => by
  obtain rfl : j = 0 := (by omega)
  skip <;> (cases hb; rfl)), inTX6, ⟨List.mem_append_right _ (List.mem_of_getElem? (i := 256) (by decide +kernel)), rfl⟩, ⟨List.mem_append_right _ (List.mem_of_getElem? (i := 257) (by decide +kernel)), rfl⟩, ⟨List.mem_append_right _ (List.mem_of_getElem? (i := 7) (by decide +kernel)), rfl⟩⟩
set_option maxRecDepth 20000 in
theorem lc_X8_83 : FLC RX8 83 yX6_init cX6_init 2 none 1 := ⟨Or.inr ⟨RX8, List.mem_append_right _ (List.mem_of_getElem? (i := 258) (by decide +kernel))⟩, ⟨List.mem_append_right _ (List.mem_of_getElem? (i := 260) (by decide +kernel)), rfl⟩, ⟨List.mem_append_right _ (List.mem_of_getElem? (i := 7) (by decide +kernel)), rfl⟩, ⟨⟨by decide +kernel, by decide +kernel⟩, by decide +kernel⟩⟩
set_option maxRecDepth 20000 in
theorem li_X6_init : FLN0 yX6_init := ⟨by decide +kernel, List.mem_append_right _ (List.mem_of_getElem? (i := 259) (by decide +kernel)), rfl⟩
set_option maxRecDepth 20000 in
theorem lc_X8_98 : FLC RX8 98 yX7_between cX7_between 5 (some .int) 2 := ⟨Or.inr ⟨RX8, List.mem_append_right _ (List.mem_of_getElem? (i := 271) (by decide +kernel))⟩, ⟨List.mem_append_right _ (List.mem_of_getElem? (i := 274) (by decide +kernel)), rfl⟩, ⟨List.mem_append_right _ (List.mem_of_getElem? (i := 2) (by decide +kernel)), rfl⟩, ⟨⟨by decide +kernel, by decide +kernel⟩, by decide +kernel⟩⟩
set_option maxRecDepth 20000 in
theorem lk_X8_102 : Cond.constant RX8 102 100000 ∈ lw_tbl := List.mem_append_right _ (List.mem_of_getElem? (i := 282) (by decide +kernel))
set_option maxRecDepth 20000 in
theorem lf_X8_103 : FLK RX8 103 9 10 false := ⟨RX8, TX8, 14, RX8, ⟨rfl, by decide, rfl, by decide⟩, inTX8, Or.inl ⟨List.mem_append_right _ (List.mem_of_getElem? (i := 111) (by decide +kernel)), rfl⟩, Or.inl rfl⟩
set_option maxRecDepth 20000 in
theorem lt_9_10 : FLT 9 10 .int := ⟨RX8, TX8, 14, tyX8, rfl, by decide +kernel, tyX8_ok, nmX8⟩
set_option maxRecDepth 20000 in
theorem lw_X8_103_X8_later : FLW yX8_later RX8 103 9 10 := ⟨RX8, TX8, 14, rfl, Or.inl rfl⟩
set_option maxRecDepth 20000 in
theorem lc_X8_95 : FLC RX8 95 yX0_forget cX0_forget 1 none 0 := ⟨Or.inr ⟨RX8, List.mem_append_right _ (List.mem_of_getElem? (i := 283) (by decide +kernel))⟩, ⟨List.mem_append_right _ (List.mem_of_getElem? (i := 286) (by decide +kernel)), rfl⟩, ⟨List.mem_append_right _ (List.mem_of_getElem? (i := 6) (by decide +kernel)), rfl⟩, ⟨⟨by decide +kernel, by decide +kernel⟩, by decide +kernel⟩⟩
set_option maxRecDepth 20000 in
theorem lv_X0_forget : FLV yX0_forget 1 := ⟨by decide, by decide +kernel, ⟨List.mem_append_right _ (List.mem_of_getElem? (i := 285) (by decide +kernel)), rfl⟩, ⟨List.mem_append_left _ (List.mem_of_getElem? (i := 5) (by decide +kernel)), rfl⟩⟩
set_option maxRecDepth 20000 in
theorem lc_X8_84 : FLC RX8 84 yX8_isStation cX8_isStation 2 (some .boolean) 1 := ⟨Or.inl ⟨List.mem_append_right _ (List.mem_of_getElem? (i := 291) (by decide +kernel)), rfl⟩, ⟨List.mem_append_right _ (List.mem_of_getElem? (i := 294) (by decide +kernel)), rfl⟩, ⟨List.mem_append_right _ (List.mem_of_getElem? (i := 1) (by decide +kernel)), rfl⟩, ⟨⟨by decide +kernel, by decide +kernel⟩, by decide +kernel⟩⟩
set_option maxRecDepth 20000 in
theorem lv_X8_isStation : FLV yX8_isStation 9 := ⟨by decide, by decide +kernel, ⟨List.mem_append_right _ (List.mem_of_getElem? (i := 293) (by decide +kernel)), rfl⟩, ⟨List.mem_append_left _ (List.mem_of_getElem? (i := 6) (by decide +kernel)), rfl⟩⟩
set_option maxRecDepth 20000 in
theorem lk_X8_149 : Cond.constant RX8 149 1000000 ∈ lw_tbl := List.mem_append_right _ (List.mem_of_getElem? (i := 295) (by decide +kernel))
set_option maxRecDepth 20000 in
theorem lc_X8_87 : FLC RX8 87 yJx4a65c_get_915e3 cJx4a65c_get_915e3 2 (some (.object "java/lang/Object")) 1 := ⟨Or.inl ⟨List.mem_append_right _ (List.mem_of_getElem? (i := 304) (by decide +kernel)), rfl⟩, ⟨List.mem_append_right _ (List.mem_of_getElem? (i := 307) (by decide +kernel)), rfl⟩, ⟨List.mem_append_right _ (List.mem_of_getElem? (i := 5) (by decide +kernel)), rfl⟩, ⟨⟨by decide +kernel, by decide +kernel⟩, by decide +kernel⟩⟩
set_option maxRecDepth 20000 in
theorem lv_Jx4a65c_get_915e3 : FLV yJx4a65c_get_915e3 0 := ⟨by decide, by decide +kernel, ⟨List.mem_append_right _ (List.mem_of_getElem? (i := 305) (by decide +kernel)), rfl⟩, ⟨List.mem_append_right _ (List.mem_of_getElem? (i := 306) (by decide +kernel)), rfl⟩⟩
set_option maxRecDepth 20000 in
theorem lq_X8_153 : Cond.classLink RX8 153 (oC 4) ∈ lw_tbl := List.mem_append_right _ (List.mem_of_getElem? (i := 318) (by decide +kernel))
set_option maxRecDepth 20000 in
theorem lc_X8_301 : FLC RX8 301 yX3_hears cX3_hears 2 (some .boolean) 1 := ⟨Or.inr ⟨RX8, List.mem_append_right _ (List.mem_of_getElem? (i := 319) (by decide +kernel))⟩, ⟨List.mem_append_right _ (List.mem_of_getElem? (i := 323) (by decide +kernel)), rfl⟩, ⟨List.mem_append_right _ (List.mem_of_getElem? (i := 18) (by decide +kernel)), rfl⟩, ⟨⟨by decide +kernel, by decide +kernel⟩, by decide +kernel⟩⟩
set_option maxRecDepth 20000 in
theorem lv_X3_hears : FLV yX3_hears 4 := ⟨by decide, by decide +kernel, ⟨List.mem_append_right _ (List.mem_of_getElem? (i := 321) (by decide +kernel)), rfl⟩, ⟨List.mem_append_left _ (List.mem_of_getElem? (i := 9) (by decide +kernel)), rfl⟩⟩
set_option maxRecDepth 20000 in
theorem lf_X8_308 : FLK RX8 308 1 5 false := ⟨RX0, TX0, 6, RX0, ⟨rfl, by decide, rfl, by decide⟩, inTX0, Or.inr ⟨RX8, List.mem_append_right _ (List.mem_of_getElem? (i := 88) (by decide +kernel))⟩, Or.inl rfl⟩
set_option maxRecDepth 20000 in
theorem lc_X8_322 : FLC RX8 322 yX0_clear cX0_clear 2 none 0 := ⟨Or.inr ⟨RX8, List.mem_append_right _ (List.mem_of_getElem? (i := 332) (by decide +kernel))⟩, ⟨List.mem_append_right _ (List.mem_of_getElem? (i := 335) (by decide +kernel)), rfl⟩, ⟨List.mem_append_right _ (List.mem_of_getElem? (i := 6) (by decide +kernel)), rfl⟩, ⟨⟨by decide +kernel, by decide +kernel⟩, by decide +kernel⟩⟩
set_option maxRecDepth 20000 in
theorem lv_X0_clear : FLV yX0_clear 1 := ⟨by decide, by decide +kernel, ⟨List.mem_append_right _ (List.mem_of_getElem? (i := 334) (by decide +kernel)), rfl⟩, ⟨List.mem_append_left _ (List.mem_of_getElem? (i := 12) (by decide +kernel)), rfl⟩⟩
set_option maxRecDepth 20000 in
theorem lq_X8_74 : Cond.classLink RX8 74 (oC 6) ∈ lw_tbl := List.mem_append_right _ (List.mem_of_getElem? (i := 166) (by decide +kernel))
set_option maxRecDepth 20000 in
theorem lf_X8_325 : FLK RX8 325 4 2 true := ⟨RX3, TX3, 6, RX3, ⟨rfl, by decide, rfl, by decide⟩, inTX3, Or.inr ⟨RX8, List.mem_append_right _ (List.mem_of_getElem? (i := 400) (by decide +kernel))⟩, Or.inl rfl⟩
set_option maxRecDepth 20000 in
theorem lf_X8_91 : FLK RX8 91 6 2 false := ⟨RX5, TX5, 3, RX5, ⟨rfl, by decide, rfl, by decide⟩, inTX5, Or.inr ⟨RX8, List.mem_append_right _ (List.mem_of_getElem? (i := 188) (by decide +kernel))⟩, Or.inl rfl⟩
set_option maxRecDepth 20000 in
theorem lf_X8_312 : FLK RX8 312 6 0 false := ⟨RX5, TX5, 3, RX5, ⟨rfl, by decide, rfl, by decide⟩, inTX5, Or.inr ⟨RX8, List.mem_append_right _ (List.mem_of_getElem? (i := 186) (by decide +kernel))⟩, Or.inl rfl⟩
set_option maxRecDepth 20000 in
theorem lc_X8_328 : FLC RX8 328 yX0_narrow cX0_narrow 7 none 4 := ⟨Or.inr ⟨RX8, List.mem_append_right _ (List.mem_of_getElem? (i := 338) (by decide +kernel))⟩, ⟨List.mem_append_right _ (List.mem_of_getElem? (i := 341) (by decide +kernel)), rfl⟩, ⟨List.mem_append_right _ (List.mem_of_getElem? (i := 6) (by decide +kernel)), rfl⟩, ⟨⟨by decide +kernel, by decide +kernel⟩, by decide +kernel⟩⟩
set_option maxRecDepth 20000 in
theorem lv_X0_narrow : FLV yX0_narrow 1 := ⟨by decide, by decide +kernel, ⟨List.mem_append_right _ (List.mem_of_getElem? (i := 340) (by decide +kernel)), rfl⟩, ⟨List.mem_append_left _ (List.mem_of_getElem? (i := 13) (by decide +kernel)), rfl⟩⟩
set_option maxRecDepth 20000 in
theorem lc_X8_332 : FLC RX8 332 yX0_countCells cX0_countCells 2 none 0 := ⟨Or.inr ⟨RX8, List.mem_append_right _ (List.mem_of_getElem? (i := 345) (by decide +kernel))⟩, ⟨List.mem_append_right _ (List.mem_of_getElem? (i := 348) (by decide +kernel)), rfl⟩, ⟨List.mem_append_right _ (List.mem_of_getElem? (i := 6) (by decide +kernel)), rfl⟩, ⟨⟨by decide +kernel, by decide +kernel⟩, by decide +kernel⟩⟩
set_option maxRecDepth 20000 in
theorem lv_X0_countCells : FLV yX0_countCells 1 := ⟨by decide, by decide +kernel, ⟨List.mem_append_right _ (List.mem_of_getElem? (i := 347) (by decide +kernel)), rfl⟩, ⟨List.mem_append_left _ (List.mem_of_getElem? (i := 14) (by decide +kernel)), rfl⟩⟩
set_option maxRecDepth 20000 in
theorem lc_X8_304 : FLC RX8 304 yX8_fillHeap cX8_fillHeap 7 none 3 := ⟨Or.inl ⟨List.mem_append_right _ (List.mem_of_getElem? (i := 328) (by decide +kernel)), rfl⟩, ⟨List.mem_append_right _ (List.mem_of_getElem? (i := 331) (by decide +kernel)), rfl⟩, ⟨List.mem_append_right _ (List.mem_of_getElem? (i := 1) (by decide +kernel)), rfl⟩, ⟨⟨by decide +kernel, by decide +kernel⟩, by decide +kernel⟩⟩
set_option maxRecDepth 20000 in
theorem lv_X8_fillHeap : FLV yX8_fillHeap 9 := ⟨by decide, by decide +kernel, ⟨List.mem_append_right _ (List.mem_of_getElem? (i := 330) (by decide +kernel)), rfl⟩, ⟨List.mem_append_left _ (List.mem_of_getElem? (i := 11) (by decide +kernel)), rfl⟩⟩
set_option maxRecDepth 20000 in
theorem lf_X8_309 : FLK RX8 309 4 0 false := ⟨RX3, TX3, 6, RX3, ⟨rfl, by decide, rfl, by decide⟩, inTX3, Or.inr ⟨RX8, List.mem_append_right _ (List.mem_of_getElem? (i := 396) (by decide +kernel))⟩, Or.inl rfl⟩
set_option maxRecDepth 20000 in
theorem lf_X8_315 : FLK RX8 315 4 1 false := ⟨RX3, TX3, 6, RX3, ⟨rfl, by decide, rfl, by decide⟩, inTX3, Or.inr ⟨RX8, List.mem_append_right _ (List.mem_of_getElem? (i := 398) (by decide +kernel))⟩, Or.inl rfl⟩
set_option maxRecDepth 20000 in
theorem lf_X0_45 : FLK RX0 45 1 3 false := ⟨RX0, TX0, 6, RX0, ⟨rfl, by decide, rfl, by decide⟩, inTX0, Or.inl ⟨List.mem_append_right _ (List.mem_of_getElem? (i := 83) (by decide +kernel)), rfl⟩, Or.inl rfl⟩
set_option maxRecDepth 20000 in
theorem lt_1_3 : FLT 1 3 .int := ⟨RX0, TX0, 6, tyX0, rfl, by decide +kernel, tyX0_ok, nmX0⟩
set_option maxRecDepth 20000 in
theorem lw_X0_45_X0_measure : FLW yX0_measure RX0 45 1 3 := ⟨RX0, TX0, 6, rfl, Or.inl rfl⟩
set_option maxRecDepth 20000 in
theorem lf_X0_48 : FLK RX0 48 1 4 false := ⟨RX0, TX0, 6, RX0, ⟨rfl, by decide, rfl, by decide⟩, inTX0, Or.inl ⟨List.mem_append_right _ (List.mem_of_getElem? (i := 85) (by decide +kernel)), rfl⟩, Or.inl rfl⟩
set_option maxRecDepth 20000 in
theorem lt_1_4 : FLT 1 4 .int := ⟨RX0, TX0, 6, tyX0, rfl, by decide +kernel, tyX0_ok, nmX0⟩
set_option maxRecDepth 20000 in
theorem lw_X0_48_X0_measure : FLW yX0_measure RX0 48 1 4 := ⟨RX0, TX0, 6, rfl, Or.inl rfl⟩
set_option maxRecDepth 20000 in
theorem lc_X8_291 : FLC RX8 291 yJ6_numberOfLeadingZeros_0f7a4 cJ6_numberOfLeadingZeros_0f7a4 2 (some .int) 1 := ⟨Or.inl ⟨List.mem_append_right _ (List.mem_of_getElem? (i := 360) (by decide +kernel)), rfl⟩, ⟨List.mem_append_right _ (List.mem_of_getElem? (i := 362) (by decide +kernel)), rfl⟩, ⟨List.mem_append_right _ (List.mem_of_getElem? (i := 16) (by decide +kernel)), rfl⟩, ⟨⟨by decide +kernel, by decide +kernel⟩, by decide +kernel⟩⟩
set_option maxRecDepth 20000 in
theorem ls_J6_numberOfLeadingZeros_0f7a4 : FLS yJ6_numberOfLeadingZeros_0f7a4 := ⟨List.mem_append_right _ (List.mem_of_getElem? (i := 361) (by decide +kernel)), rfl⟩
set_option maxRecDepth 20000 in
theorem lc_X0_51 : FLC RX0 51 yX8_bits cX8_bits 1 (some .int) 1 := ⟨Or.inr ⟨RX8, List.mem_append_right _ (List.mem_of_getElem? (i := 357) (by decide +kernel))⟩, ⟨List.mem_append_right _ (List.mem_of_getElem? (i := 359) (by decide +kernel)), rfl⟩, ⟨List.mem_append_right _ (List.mem_of_getElem? (i := 1) (by decide +kernel)), rfl⟩, ⟨⟨by decide +kernel, by decide +kernel⟩, by decide +kernel⟩⟩
set_option maxRecDepth 20000 in
theorem ls_X8_bits : FLS yX8_bits := ⟨List.mem_append_right _ (List.mem_of_getElem? (i := 358) (by decide +kernel)), rfl⟩
set_option maxRecDepth 20000 in
theorem lc_X8_318 : FLC RX8 318 yX0_measure cX0_measure 6 none 3 := ⟨Or.inr ⟨RX8, List.mem_append_right _ (List.mem_of_getElem? (i := 353) (by decide +kernel))⟩, ⟨List.mem_append_right _ (List.mem_of_getElem? (i := 356) (by decide +kernel)), rfl⟩, ⟨List.mem_append_right _ (List.mem_of_getElem? (i := 6) (by decide +kernel)), rfl⟩, ⟨⟨by decide +kernel, by decide +kernel⟩, by decide +kernel⟩⟩
set_option maxRecDepth 20000 in
theorem lv_X0_measure : FLV yX0_measure 1 := ⟨by decide, by decide +kernel, ⟨List.mem_append_right _ (List.mem_of_getElem? (i := 355) (by decide +kernel)), rfl⟩, ⟨List.mem_append_left _ (List.mem_of_getElem? (i := 16) (by decide +kernel)), rfl⟩⟩
set_option maxRecDepth 20000 in
theorem lw_X8_308_X8_heapOf : FLW yX8_heapOf RX8 308 1 5 := ⟨RX0, TX0, 6, rfl, Or.inl rfl⟩
set_option maxRecDepth 20000 in
theorem lc_X8_194 : FLC RX8 194 yX8_heapOf cX8_heapOf 3 (some (.object "FirstSeconds$Heap")) 1 := ⟨Or.inl ⟨List.mem_append_right _ (List.mem_of_getElem? (i := 324) (by decide +kernel)), rfl⟩, ⟨List.mem_append_right _ (List.mem_of_getElem? (i := 327) (by decide +kernel)), rfl⟩, ⟨List.mem_append_right _ (List.mem_of_getElem? (i := 1) (by decide +kernel)), rfl⟩, ⟨⟨by decide +kernel, by decide +kernel⟩, by decide +kernel⟩⟩
set_option maxRecDepth 20000 in
theorem lv_X8_heapOf : FLV yX8_heapOf 9 := ⟨by decide, by decide +kernel, ⟨List.mem_append_right _ (List.mem_of_getElem? (i := 326) (by decide +kernel)), rfl⟩, ⟨List.mem_append_left _ (List.mem_of_getElem? (i := 10) (by decide +kernel)), rfl⟩⟩
set_option maxRecDepth 20000 in
theorem lf_X8_198 : FLK RX8 198 1 2 false := ⟨RX0, TX0, 6, RX0, ⟨rfl, by decide, rfl, by decide⟩, inTX0, Or.inr ⟨RX8, List.mem_append_right _ (List.mem_of_getElem? (i := 82) (by decide +kernel))⟩, Or.inl rfl⟩
set_option maxRecDepth 20000 in
theorem lc_X8_298 : FLC RX8 298 yX8_takes cX8_takes 5 (some .boolean) 3 := ⟨Or.inl ⟨List.mem_append_right _ (List.mem_of_getElem? (i := 300) (by decide +kernel)), rfl⟩, ⟨List.mem_append_right _ (List.mem_of_getElem? (i := 303) (by decide +kernel)), rfl⟩, ⟨List.mem_append_right _ (List.mem_of_getElem? (i := 1) (by decide +kernel)), rfl⟩, ⟨⟨by decide +kernel, by decide +kernel⟩, by decide +kernel⟩⟩
set_option maxRecDepth 20000 in
theorem lv_X8_takes : FLV yX8_takes 9 := ⟨by decide, by decide +kernel, ⟨List.mem_append_right _ (List.mem_of_getElem? (i := 302) (by decide +kernel)), rfl⟩, ⟨List.mem_append_left _ (List.mem_of_getElem? (i := 8) (by decide +kernel)), rfl⟩⟩
set_option maxRecDepth 20000 in
theorem lc_X8_150 : FLC RX8 150 yX8_takerOf cX8_takerOf 4 (some .int) 2 := ⟨Or.inl ⟨List.mem_append_right _ (List.mem_of_getElem? (i := 296) (by decide +kernel)), rfl⟩, ⟨List.mem_append_right _ (List.mem_of_getElem? (i := 299) (by decide +kernel)), rfl⟩, ⟨List.mem_append_right _ (List.mem_of_getElem? (i := 1) (by decide +kernel)), rfl⟩, ⟨⟨by decide +kernel, by decide +kernel⟩, by decide +kernel⟩⟩
set_option maxRecDepth 20000 in
theorem lv_X8_takerOf : FLV yX8_takerOf 9 := ⟨by decide, by decide +kernel, ⟨List.mem_append_right _ (List.mem_of_getElem? (i := 298) (by decide +kernel)), rfl⟩, ⟨List.mem_append_left _ (List.mem_of_getElem? (i := 7) (by decide +kernel)), rfl⟩⟩
set_option maxRecDepth 20000 in
theorem ln_X8_159 : FLN RX8 159 3 := ⟨RX2, TX2, 5, tyX2, ⟨rfl, by decide, rfl⟩, tyX2_ok, (fun j hj b hb => by
  rcases (show j = 0 ∨ j = 1 ∨ j = 2 ∨ j = 3 ∨ j = 4 by omega) with rfl | rfl | rfl | rfl | rfl <;> (cases hb; rfl)), inTX2, ⟨List.mem_append_right _ (List.mem_of_getElem? (i := 368) (by decide +kernel)), rfl⟩, ⟨List.mem_append_right _ (List.mem_of_getElem? (i := 369) (by decide +kernel)), rfl⟩, ⟨List.mem_append_right _ (List.mem_of_getElem? (i := 17) (by decide +kernel)), rfl⟩⟩
set_option maxRecDepth 20000 in
theorem lc_X8_161 : FLC RX8 161 yX2_init cX2_init 6 none 5 := ⟨Or.inr ⟨RX8, List.mem_append_right _ (List.mem_of_getElem? (i := 370) (by decide +kernel))⟩, ⟨List.mem_append_right _ (List.mem_of_getElem? (i := 372) (by decide +kernel)), rfl⟩, ⟨List.mem_append_right _ (List.mem_of_getElem? (i := 17) (by decide +kernel)), rfl⟩, ⟨⟨by decide +kernel, by decide +kernel⟩, by decide +kernel⟩⟩
set_option maxRecDepth 20000 in
theorem li_X2_init : FLN0 yX2_init := ⟨by decide +kernel, List.mem_append_right _ (List.mem_of_getElem? (i := 371) (by decide +kernel)), rfl⟩
set_option maxRecDepth 20000 in
theorem ln_X8_153 : FLN RX8 153 4 := ⟨RX3, TX3, 6, tyX3, ⟨rfl, by decide, rfl⟩, tyX3_ok, (fun j hj b hb => by
  rcases (show j = 0 ∨ j = 1 ∨ j = 2 ∨ j = 3 ∨ j = 4 ∨ j = 5 by omega) with rfl | rfl | rfl | rfl | rfl | rfl <;> (cases hb; rfl)), inTX3, ⟨List.mem_append_right _ (List.mem_of_getElem? (i := 318) (by decide +kernel)), rfl⟩, ⟨List.mem_append_right _ (List.mem_of_getElem? (i := 322) (by decide +kernel)), rfl⟩, ⟨List.mem_append_right _ (List.mem_of_getElem? (i := 18) (by decide +kernel)), rfl⟩⟩
set_option maxRecDepth 20000 in
theorem lc_X8_164 : FLC RX8 164 yX3_init cX3_init 5 none 3 := ⟨Or.inr ⟨RX8, List.mem_append_right _ (List.mem_of_getElem? (i := 390) (by decide +kernel))⟩, ⟨List.mem_append_right _ (List.mem_of_getElem? (i := 392) (by decide +kernel)), rfl⟩, ⟨List.mem_append_right _ (List.mem_of_getElem? (i := 18) (by decide +kernel)), rfl⟩, ⟨⟨by decide +kernel, by decide +kernel⟩, by decide +kernel⟩⟩
set_option maxRecDepth 20000 in
theorem li_X3_init : FLN0 yX3_init := ⟨by decide +kernel, List.mem_append_right _ (List.mem_of_getElem? (i := 391) (by decide +kernel)), rfl⟩
set_option maxRecDepth 20000 in
theorem lc_X8_155 : FLC RX8 155 yX3_hear cX3_hear 3 none 2 := ⟨Or.inr ⟨RX8, List.mem_append_right _ (List.mem_of_getElem? (i := 364) (by decide +kernel))⟩, ⟨List.mem_append_right _ (List.mem_of_getElem? (i := 367) (by decide +kernel)), rfl⟩, ⟨List.mem_append_right _ (List.mem_of_getElem? (i := 18) (by decide +kernel)), rfl⟩, ⟨⟨by decide +kernel, by decide +kernel⟩, by decide +kernel⟩⟩
set_option maxRecDepth 20000 in
theorem lc_X8_188 : FLC RX8 188 yX8_isQuake cX8_isQuake 2 (some .boolean) 1 := ⟨Or.inl ⟨List.mem_append_right _ (List.mem_of_getElem? (i := 422) (by decide +kernel)), rfl⟩, ⟨List.mem_append_right _ (List.mem_of_getElem? (i := 425) (by decide +kernel)), rfl⟩, ⟨List.mem_append_right _ (List.mem_of_getElem? (i := 1) (by decide +kernel)), rfl⟩, ⟨⟨by decide +kernel, by decide +kernel⟩, by decide +kernel⟩⟩
set_option maxRecDepth 20000 in
theorem lv_X8_isQuake : FLV yX8_isQuake 9 := ⟨by decide, by decide +kernel, ⟨List.mem_append_right _ (List.mem_of_getElem? (i := 424) (by decide +kernel)), rfl⟩, ⟨List.mem_append_left _ (List.mem_of_getElem? (i := 18) (by decide +kernel)), rfl⟩⟩
set_option maxRecDepth 20000 in
theorem lf_X8_191 : FLK RX8 191 4 3 false := ⟨RX3, TX3, 6, RX3, ⟨rfl, by decide, rfl, by decide⟩, inTX3, Or.inr ⟨RX8, List.mem_append_right _ (List.mem_of_getElem? (i := 402) (by decide +kernel))⟩, Or.inl rfl⟩
set_option maxRecDepth 20000 in
theorem lf_X8_201 : FLK RX8 201 1 3 false := ⟨RX0, TX0, 6, RX0, ⟨rfl, by decide, rfl, by decide⟩, inTX0, Or.inr ⟨RX8, List.mem_append_right _ (List.mem_of_getElem? (i := 84) (by decide +kernel))⟩, Or.inl rfl⟩
set_option maxRecDepth 20000 in
theorem lf_X8_204 : FLK RX8 204 1 4 false := ⟨RX0, TX0, 6, RX0, ⟨rfl, by decide, rfl, by decide⟩, inTX0, Or.inr ⟨RX8, List.mem_append_right _ (List.mem_of_getElem? (i := 86) (by decide +kernel))⟩, Or.inl rfl⟩
set_option maxRecDepth 20000 in
theorem lc_X8_207 : FLC RX8 207 yX8_isOver cX8_isOver 2 (some .boolean) 1 := ⟨Or.inl ⟨List.mem_append_right _ (List.mem_of_getElem? (i := 426) (by decide +kernel)), rfl⟩, ⟨List.mem_append_right _ (List.mem_of_getElem? (i := 429) (by decide +kernel)), rfl⟩, ⟨List.mem_append_right _ (List.mem_of_getElem? (i := 1) (by decide +kernel)), rfl⟩, ⟨⟨by decide +kernel, by decide +kernel⟩, by decide +kernel⟩⟩
set_option maxRecDepth 20000 in
theorem lv_X8_isOver : FLV yX8_isOver 9 := ⟨by decide, by decide +kernel, ⟨List.mem_append_right _ (List.mem_of_getElem? (i := 428) (by decide +kernel)), rfl⟩, ⟨List.mem_append_left _ (List.mem_of_getElem? (i := 19) (by decide +kernel)), rfl⟩⟩
set_option maxRecDepth 20000 in
theorem lf_X8_218 : FLK RX8 218 1 0 true := ⟨RX0, TX0, 6, RX0, ⟨rfl, by decide, rfl, by decide⟩, inTX0, Or.inr ⟨RX8, List.mem_append_right _ (List.mem_of_getElem? (i := 78) (by decide +kernel))⟩, Or.inl rfl⟩
set_option maxRecDepth 20000 in
theorem lf_X8_215 : FLK RX8 215 1 1 true := ⟨RX0, TX0, 6, RX0, ⟨rfl, by decide, rfl, by decide⟩, inTX0, Or.inr ⟨RX8, List.mem_append_right _ (List.mem_of_getElem? (i := 80) (by decide +kernel))⟩, Or.inl rfl⟩
set_option maxRecDepth 20000 in
theorem lc_X8_221 : FLC RX8 221 yX8_isTown cX8_isTown 2 (some .boolean) 1 := ⟨Or.inl ⟨List.mem_append_right _ (List.mem_of_getElem? (i := 438) (by decide +kernel)), rfl⟩, ⟨List.mem_append_right _ (List.mem_of_getElem? (i := 441) (by decide +kernel)), rfl⟩, ⟨List.mem_append_right _ (List.mem_of_getElem? (i := 1) (by decide +kernel)), rfl⟩, ⟨⟨by decide +kernel, by decide +kernel⟩, by decide +kernel⟩⟩
set_option maxRecDepth 20000 in
theorem lv_X8_isTown : FLV yX8_isTown 9 := ⟨by decide, by decide +kernel, ⟨List.mem_append_right _ (List.mem_of_getElem? (i := 440) (by decide +kernel)), rfl⟩, ⟨List.mem_append_left _ (List.mem_of_getElem? (i := 20) (by decide +kernel)), rfl⟩⟩
set_option maxRecDepth 20000 in
theorem lq_X8_81 : Cond.classLink RX8 81 (oC 7) ∈ lw_tbl := List.mem_append_right _ (List.mem_of_getElem? (i := 256) (by decide +kernel))
set_option maxRecDepth 20000 in
theorem lf_X8_335 : FLK RX8 335 7 0 false := ⟨RX6, TX6, 1, RX6, ⟨rfl, by decide, rfl, by decide⟩, inTX6, Or.inr ⟨RX8, List.mem_append_right _ (List.mem_of_getElem? (i := 263) (by decide +kernel))⟩, Or.inl rfl⟩
set_option maxRecDepth 20000 in
theorem lk_X8_342 : Cond.constant RX8 342 (-1000000) ∈ lw_tbl := List.mem_append_right _ (List.mem_of_getElem? (i := 446) (by decide +kernel))
set_option maxRecDepth 20000 in
theorem lc_X8_213 : FLC RX8 213 yX0_has cX0_has 2 (some .boolean) 1 := ⟨Or.inr ⟨RX8, List.mem_append_right _ (List.mem_of_getElem? (i := 447) (by decide +kernel))⟩, ⟨List.mem_append_right _ (List.mem_of_getElem? (i := 352) (by decide +kernel)), rfl⟩, ⟨List.mem_append_right _ (List.mem_of_getElem? (i := 6) (by decide +kernel)), rfl⟩, ⟨⟨by decide +kernel, by decide +kernel⟩, by decide +kernel⟩⟩
set_option maxRecDepth 20000 in
theorem lM_X8_261 : FLM RX8 261 Lib.Math.max.name Lib.Math.max.code 2 := ⟨⟨List.mem_append_right _ (List.mem_of_getElem? (i := 448) (by decide +kernel)), rfl⟩, ⟨List.mem_append_right _ (List.mem_of_getElem? (i := 216) (by decide +kernel)), rfl⟩, ⟨List.mem_append_right _ (List.mem_of_getElem? (i := 9) (by decide +kernel)), rfl⟩, ⟨List.mem_append_right _ (List.mem_of_getElem? (i := 217) (by decide +kernel)), rfl⟩⟩
set_option maxRecDepth 20000 in
theorem lc_X8_255 : FLC RX8 255 yX8_latestArrival cX8_latestArrival 7 (some .int) 2 := ⟨Or.inl ⟨List.mem_append_right _ (List.mem_of_getElem? (i := 442) (by decide +kernel)), rfl⟩, ⟨List.mem_append_right _ (List.mem_of_getElem? (i := 445) (by decide +kernel)), rfl⟩, ⟨List.mem_append_right _ (List.mem_of_getElem? (i := 1) (by decide +kernel)), rfl⟩, ⟨⟨by decide +kernel, by decide +kernel⟩, by decide +kernel⟩⟩
set_option maxRecDepth 20000 in
theorem lv_X8_latestArrival : FLV yX8_latestArrival 9 := ⟨by decide, by decide +kernel, ⟨List.mem_append_right _ (List.mem_of_getElem? (i := 444) (by decide +kernel)), rfl⟩, ⟨List.mem_append_left _ (List.mem_of_getElem? (i := 21) (by decide +kernel)), rfl⟩⟩
set_option maxRecDepth 20000 in
theorem lM_X8_339 : FLM RX8 339 Lib.Math.min.name Lib.Math.min.code 2 := ⟨⟨List.mem_append_right _ (List.mem_of_getElem? (i := 453) (by decide +kernel)), rfl⟩, ⟨List.mem_append_right _ (List.mem_of_getElem? (i := 245) (by decide +kernel)), rfl⟩, ⟨List.mem_append_right _ (List.mem_of_getElem? (i := 9) (by decide +kernel)), rfl⟩, ⟨List.mem_append_right _ (List.mem_of_getElem? (i := 246) (by decide +kernel)), rfl⟩⟩
set_option maxRecDepth 20000 in
theorem lc_X8_258 : FLC RX8 258 yX8_earliestArrival cX8_earliestArrival 7 (some .int) 2 := ⟨Or.inl ⟨List.mem_append_right _ (List.mem_of_getElem? (i := 449) (by decide +kernel)), rfl⟩, ⟨List.mem_append_right _ (List.mem_of_getElem? (i := 452) (by decide +kernel)), rfl⟩, ⟨List.mem_append_right _ (List.mem_of_getElem? (i := 1) (by decide +kernel)), rfl⟩, ⟨⟨by decide +kernel, by decide +kernel⟩, by decide +kernel⟩⟩
set_option maxRecDepth 20000 in
theorem lv_X8_earliestArrival : FLV yX8_earliestArrival 9 := ⟨by decide, by decide +kernel, ⟨List.mem_append_right _ (List.mem_of_getElem? (i := 451) (by decide +kernel)), rfl⟩, ⟨List.mem_append_left _ (List.mem_of_getElem? (i := 22) (by decide +kernel)), rfl⟩⟩
set_option maxRecDepth 20000 in
theorem lf_X8_233 : FLK RX8 233 9 12 false := ⟨RX8, TX8, 14, RX8, ⟨rfl, by decide, rfl, by decide⟩, inTX8, Or.inl ⟨List.mem_append_right _ (List.mem_of_getElem? (i := 113) (by decide +kernel)), rfl⟩, Or.inl rfl⟩
/-! by program: what the methods do, and that their bytecode does it -/
/-! X8_init -/
noncomputable def f_X8_init (z : Nat) (t : Option Nm) (g : Hp) : Option (Unit × Hp) :=
  (nnu t).bind fun _ =>
  (mkO (8, 0) 8 g).bind fun q1 =>
  (nnl q1.1 (f_X7_init z q1.1 100 q1.2)).bind fun q2 =>
  (putR t 9 0 q1.1 q2.2).bind fun g3 =>
  (mkO (0, 0) 0 g3).bind fun q4 =>
  (nnl q4.1 (f_Jx4a65c_init_da8c8 z q4.1 q4.2)).bind fun q5 =>
  (putR t 9 1 q4.1 q5.2).bind fun g6 =>
  (mkO (0, 1) 0 g6).bind fun q7 =>
  (nnl q7.1 (f_Jx4a65c_init_da8c8 z q7.1 q7.2)).bind fun q8 =>
  (putR t 9 2 q7.1 q8.2).bind fun g9 =>
  (mkO (0, 2) 0 g9).bind fun q10 =>
  (nnl q10.1 (f_Jx4a65c_init_da8c8 z q10.1 q10.2)).bind fun q11 =>
  (putR t 9 3 q10.1 q11.2).bind fun g12 =>
  (mkO (0, 3) 0 g12).bind fun q13 =>
  (nnl q13.1 (f_Jx4a65c_init_da8c8 z q13.1 q13.2)).bind fun q14 =>
  (putR t 9 4 q13.1 q14.2).bind fun g15 =>
  (mkO (0, 4) 0 g15).bind fun q16 =>
  (nnl q16.1 (f_Jx4a65c_init_da8c8 z q16.1 q16.2)).bind fun q17 =>
  (putR t 9 5 q16.1 q17.2).bind fun g18 =>
  (mkO (1, 0) 1 g18).bind fun q19 =>
  (nnl q19.1 (f_X0_init z q19.1 q19.2)).bind fun q20 =>
  (putR t 9 6 q19.1 q20.2).bind fun g21 =>
  (mkI (23, 0) 6 g21).bind fun q22 =>
  (astI q22.1 0 0 q22.2).bind fun g23 =>
  (astI q22.1 1 4 g23).bind fun g24 =>
  (astI q22.1 2 8 g24).bind fun g25 =>
  (astI q22.1 3 12 g25).bind fun g26 =>
  (astI q22.1 4 16 g26).bind fun g27 =>
  (astI q22.1 5 61 g27).bind fun g28 =>
  (putR t 9 7 q22.1 g28).bind fun g29 =>
  (mkI (24, 0) 6 g29).bind fun q30 =>
  (putR t 9 8 q30.1 q30.2).bind fun g31 =>
  (putI t 9 11 2 g31).bind fun g32 =>
  some ((), g32)
set_option maxRecDepth 20000 in
theorem m_X8_init (z : Nat) (t : Option Nm) (g : Hp) : FM yX8_init cX8_init 1 none 4 72 rtV [sR t] g (f_X8_init z t g) := by
  refine FM.entry (by decide +kernel) (Nat.le_of_ble_eq_true rfl) (fun X hX => ?_)
  unfold f_X8_init
  show J yX8_init cX8_init 1 none 4 72 X g 0 [(0, sR t)] [] _
  refine j_aload_n (pc := 0) 0 dX8_init_0 rfl rfl ?_
  refine b_oinit (pc := 1) (own := RX8) dX8_init_1 lo_X8_3 rfl ⟨Nat.le_of_ble_eq_true rfl, Nat.le_of_ble_eq_true rfl⟩ rfl ?_
  refine j_aload_n (pc := 4) 0 dX8_init_4 rfl rfl ?_
  refine j_mkO (pc := 5) (own := RX8) dX8_init_5 ln_X8_9 rfl rfl (fun q1r q1g => ?_)
  refine j_dup (pc := 8) dX8_init_8 rfl ?_
  refine j_bipush (pc := 9) (v := 100) dX8_init_9 (by decide) ?_
  refine j_callI (pc := 11) (own := RX8) [sI 100] [sR q1r, sR t] dX8_init_11 lc_X8_11 li_X7_init rfl (m_X7_init z q1r 100 q1g) ⟨⟨Nat.le_of_ble_eq_true rfl, Nat.le_of_ble_eq_true rfl⟩, Nat.le_of_ble_eq_true rfl⟩ rfl rfl (fun q2r q2g => ?_)
  refine j_putR (pc := 14) (own := RX8) dX8_init_14 lf_X8_14 lt_9_0 rfl lw_X8_14_X8_init rfl rfl (fun g3 => ?_)
  refine j_aload_n (pc := 17) 0 dX8_init_17 rfl rfl ?_
  refine j_mkO (pc := 18) (own := RX8) dX8_init_18 ln_X8_18 rfl rfl (fun q4r q4g => ?_)
  refine j_dup (pc := 21) dX8_init_21 rfl ?_
  refine j_callI (pc := 22) (own := RX8) [] [sR q4r, sR t] dX8_init_22 lc_X8_20 li_Jx4a65c_init_da8c8 rfl (m_Jx4a65c_init_da8c8 z q4r q4g) ⟨⟨Nat.le_of_ble_eq_true rfl, Nat.le_of_ble_eq_true rfl⟩, Nat.le_of_ble_eq_true rfl⟩ rfl rfl (fun q5r q5g => ?_)
  refine j_putR (pc := 25) (own := RX8) dX8_init_25 lf_X8_21 lt_9_1 rfl lw_X8_21_X8_init rfl rfl (fun g6 => ?_)
  refine j_aload_n (pc := 28) 0 dX8_init_28 rfl rfl ?_
  refine j_mkO (pc := 29) (own := RX8) dX8_init_29 ln_X8_18 rfl rfl (fun q7r q7g => ?_)
  refine j_dup (pc := 32) dX8_init_32 rfl ?_
  refine j_callI (pc := 33) (own := RX8) [] [sR q7r, sR t] dX8_init_33 lc_X8_20 li_Jx4a65c_init_da8c8 rfl (m_Jx4a65c_init_da8c8 z q7r q7g) ⟨⟨Nat.le_of_ble_eq_true rfl, Nat.le_of_ble_eq_true rfl⟩, Nat.le_of_ble_eq_true rfl⟩ rfl rfl (fun q8r q8g => ?_)
  refine j_putR (pc := 36) (own := RX8) dX8_init_36 lf_X8_25 lt_9_2 rfl lw_X8_25_X8_init rfl rfl (fun g9 => ?_)
  refine j_aload_n (pc := 39) 0 dX8_init_39 rfl rfl ?_
  refine j_mkO (pc := 40) (own := RX8) dX8_init_40 ln_X8_18 rfl rfl (fun q10r q10g => ?_)
  refine j_dup (pc := 43) dX8_init_43 rfl ?_
  refine j_callI (pc := 44) (own := RX8) [] [sR q10r, sR t] dX8_init_44 lc_X8_20 li_Jx4a65c_init_da8c8 rfl (m_Jx4a65c_init_da8c8 z q10r q10g) ⟨⟨Nat.le_of_ble_eq_true rfl, Nat.le_of_ble_eq_true rfl⟩, Nat.le_of_ble_eq_true rfl⟩ rfl rfl (fun q11r q11g => ?_)
  refine j_putR (pc := 47) (own := RX8) dX8_init_47 lf_X8_28 lt_9_3 rfl lw_X8_28_X8_init rfl rfl (fun g12 => ?_)
  refine j_aload_n (pc := 50) 0 dX8_init_50 rfl rfl ?_
  refine j_mkO (pc := 51) (own := RX8) dX8_init_51 ln_X8_18 rfl rfl (fun q13r q13g => ?_)
  refine j_dup (pc := 54) dX8_init_54 rfl ?_
  refine j_callI (pc := 55) (own := RX8) [] [sR q13r, sR t] dX8_init_55 lc_X8_20 li_Jx4a65c_init_da8c8 rfl (m_Jx4a65c_init_da8c8 z q13r q13g) ⟨⟨Nat.le_of_ble_eq_true rfl, Nat.le_of_ble_eq_true rfl⟩, Nat.le_of_ble_eq_true rfl⟩ rfl rfl (fun q14r q14g => ?_)
  refine j_putR (pc := 58) (own := RX8) dX8_init_58 lf_X8_31 lt_9_4 rfl lw_X8_31_X8_init rfl rfl (fun g15 => ?_)
  refine j_aload_n (pc := 61) 0 dX8_init_61 rfl rfl ?_
  refine j_mkO (pc := 62) (own := RX8) dX8_init_62 ln_X8_18 rfl rfl (fun q16r q16g => ?_)
  refine j_dup (pc := 65) dX8_init_65 rfl ?_
  refine j_callI (pc := 66) (own := RX8) [] [sR q16r, sR t] dX8_init_66 lc_X8_20 li_Jx4a65c_init_da8c8 rfl (m_Jx4a65c_init_da8c8 z q16r q16g) ⟨⟨Nat.le_of_ble_eq_true rfl, Nat.le_of_ble_eq_true rfl⟩, Nat.le_of_ble_eq_true rfl⟩ rfl rfl (fun q17r q17g => ?_)
  refine j_putR (pc := 69) (own := RX8) dX8_init_69 lf_X8_34 lt_9_5 rfl lw_X8_34_X8_init rfl rfl (fun g18 => ?_)
  refine j_aload_n (pc := 72) 0 dX8_init_72 rfl rfl ?_
  refine j_mkO (pc := 73) (own := RX8) dX8_init_73 ln_X8_37 rfl rfl (fun q19r q19g => ?_)
  refine j_dup (pc := 76) dX8_init_76 rfl ?_
  refine j_callI (pc := 77) (own := RX8) [] [sR q19r, sR t] dX8_init_77 lc_X8_39 li_X0_init rfl (m_X0_init z q19r q19g) ⟨⟨Nat.le_of_ble_eq_true rfl, Nat.le_of_ble_eq_true rfl⟩, Nat.le_of_ble_eq_true rfl⟩ rfl rfl (fun q20r q20g => ?_)
  refine j_putR (pc := 80) (own := RX8) dX8_init_80 lf_X8_40 lt_9_6 rfl lw_X8_40_X8_init rfl rfl (fun g21 => ?_)
  refine j_aload_n (pc := 83) 0 dX8_init_83 rfl rfl ?_
  refine j_bipush (pc := 84) (v := 6) dX8_init_84 (by decide) ?_
  refine j_mkI (pc := 86) dX8_init_86 lA_int rfl (fun q22r q22g => ?_)
  refine j_dup (pc := 88) dX8_init_88 rfl ?_
  refine j_iconst (pc := 89) (v := 0) dX8_init_89 (by decide) ?_
  refine j_iconst (pc := 90) (v := 0) dX8_init_90 (by decide) ?_
  refine j_astI (pc := 91) dX8_init_91 rfl (fun g23 => ?_)
  refine j_dup (pc := 92) dX8_init_92 rfl ?_
  refine j_iconst (pc := 93) (v := 1) dX8_init_93 (by decide) ?_
  refine j_iconst (pc := 94) (v := 4) dX8_init_94 (by decide) ?_
  refine j_astI (pc := 95) dX8_init_95 rfl (fun g24 => ?_)
  refine j_dup (pc := 96) dX8_init_96 rfl ?_
  refine j_iconst (pc := 97) (v := 2) dX8_init_97 (by decide) ?_
  refine j_bipush (pc := 98) (v := 8) dX8_init_98 (by decide) ?_
  refine j_astI (pc := 100) dX8_init_100 rfl (fun g25 => ?_)
  refine j_dup (pc := 101) dX8_init_101 rfl ?_
  refine j_iconst (pc := 102) (v := 3) dX8_init_102 (by decide) ?_
  refine j_bipush (pc := 103) (v := 12) dX8_init_103 (by decide) ?_
  refine j_astI (pc := 105) dX8_init_105 rfl (fun g26 => ?_)
  refine j_dup (pc := 106) dX8_init_106 rfl ?_
  refine j_iconst (pc := 107) (v := 4) dX8_init_107 (by decide) ?_
  refine j_bipush (pc := 108) (v := 16) dX8_init_108 (by decide) ?_
  refine j_astI (pc := 110) dX8_init_110 rfl (fun g27 => ?_)
  refine j_dup (pc := 111) dX8_init_111 rfl ?_
  refine j_iconst (pc := 112) (v := 5) dX8_init_112 (by decide) ?_
  refine j_bipush (pc := 113) (v := 61) dX8_init_113 (by decide) ?_
  refine j_astI (pc := 115) dX8_init_115 rfl (fun g28 => ?_)
  refine j_putR (pc := 116) (own := RX8) dX8_init_116 lf_X8_44 lt_9_7 rfl lw_X8_44_X8_init rfl rfl (fun g29 => ?_)
  refine j_aload_n (pc := 119) 0 dX8_init_119 rfl rfl ?_
  refine j_bipush (pc := 120) (v := 6) dX8_init_120 (by decide) ?_
  refine j_mkI (pc := 122) dX8_init_122 lA_int rfl (fun q30r q30g => ?_)
  refine j_putR (pc := 124) (own := RX8) dX8_init_124 lf_X8_48 lt_9_8 rfl lw_X8_48_X8_init rfl rfl (fun g31 => ?_)
  refine j_aload_n (pc := 127) 0 dX8_init_127 rfl rfl ?_
  refine j_iconst (pc := 128) (v := 2) dX8_init_128 (by decide) ?_
  refine j_putI (pc := 129) (own := RX8) dX8_init_129 lf_X8_51 lt_9_11 lw_X8_51_X8_init rfl rfl (fun g32 => ?_)
  exact j_return dX8_init_132 hX rfl rfl
/-! X8_isWithin -/
noncomputable def f_X8_isWithin (z : Nat) (a0 : Int32) (a1 : Int32) (a2 : Int32) (g : Hp) : Option (Int32 × Hp) :=
  if a0 < a1 then (rtZ 0 g)
  else (if a2 < a0 then (rtZ 0 g)
    else (rtZ 1 g))
set_option maxRecDepth 20000 in
theorem m_X8_isWithin (z : Nat) (a0 : Int32) (a1 : Int32) (a2 : Int32) (g : Hp) : FM yX8_isWithin cX8_isWithin 3 (some .boolean) 0 0 rtI [sI a0, sI a1, sI a2] g (f_X8_isWithin z a0 a1 a2 g) := by
  refine FM.entry (by decide +kernel) (Nat.le_of_ble_eq_true rfl) (fun X hX => ?_)
  unfold f_X8_isWithin
  show J yX8_isWithin cX8_isWithin 3 (some .boolean) 0 0 X g 0 [(0, sI a0), (1, sI a1), (2, sI a2)] [] _
  refine j_iload_n (pc := 0) 0 dX8_isWithin_0 rfl rfl ?_
  refine j_iload_n (pc := 1) 1 dX8_isWithin_1 rfl rfl ?_
  refine j_icmp_lt (pc := 2) (tgt := 14) dX8_isWithin_2 (by decide) rfl (fun hc => ?_) (fun hc => ?_)
  · refine j_iconst (pc := 14) (v := 0) dX8_isWithin_14 (by decide) ?_
    exact j_zreturn dX8_isWithin_15 hX rfl rfl
  · refine j_iload_n (pc := 5) 0 dX8_isWithin_5 rfl rfl ?_
    refine j_iload_n (pc := 6) 2 dX8_isWithin_6 rfl rfl ?_
    refine j_icmp_gt (pc := 7) (tgt := 14) dX8_isWithin_7 (by decide) rfl (fun hc => ?_) (fun hc => ?_)
    · refine j_iconst (pc := 14) (v := 0) dX8_isWithin_14 (by decide) ?_
      exact j_zreturn dX8_isWithin_15 hX rfl rfl
    · refine j_iconst (pc := 10) (v := 1) dX8_isWithin_10 (by decide) ?_
      refine j_goto (pc := 11) (tgt := 15) dX8_isWithin_11 (by decide) ?_
      exact j_zreturn dX8_isWithin_15 hX rfl rfl
/-! X8_rule -/
noncomputable def f_X8_rule (z : Nat) (t : Option Nm) (a0 : Int32) (a1 : Int32) (g : Hp) : Option (Int32 × Hp) :=
  (f_X8_isWithin z a0 1 400 g).bind fun q1 =>
  if q1.1 = 0 then (some ((-1), q1.2))
  else ((f_X8_isWithin z a1 0 50 q1.2).bind fun q2 =>
    if q2.1 = 0 then (some ((-1), q2.2))
    else ((getR t 9 3 q2.2).bind fun x3 =>
      (ick x3 0 (f_Jx4a65c_isEmpty_aae02 z x3 q2.2)).bind fun q4 =>
      if q4.1 = 0 then (some ((-4), q4.2))
      else ((getR t 9 0 q4.2).bind fun x5 =>
        (ick x5 8 (f_X7_reckon z x5 a0 q4.2)).bind fun q6 =>
        (putI t 9 11 a1 q6.2).bind fun g7 =>
        some (1, g7))))
set_option maxRecDepth 20000 in
theorem m_X8_rule (z : Nat) (t : Option Nm) (a0 : Int32) (a1 : Int32) (g : Hp) : FM yX8_rule cX8_rule 3 (some .int) 2 46 rtI [sR t, sI a0, sI a1] g (f_X8_rule z t a0 a1 g) := by
  refine FM.entry (by decide +kernel) (Nat.le_of_ble_eq_true rfl) (fun X hX => ?_)
  unfold f_X8_rule
  show J yX8_rule cX8_rule 3 (some .int) 2 46 X g 0 [(0, sR t), (1, sI a0), (2, sI a1)] [] _
  refine j_iload_n (pc := 0) 1 dX8_rule_0 rfl rfl ?_
  refine j_iconst (pc := 1) (v := 1) dX8_rule_1 (by decide) ?_
  refine j_sipush (pc := 2) (v := 400) dX8_rule_2 (by decide) ?_
  refine j_callS (pc := 5) (own := RX8) [sI a0, sI 1, sI 400] [] dX8_rule_5 lc_X8_55 ls_X8_isWithin rfl (m_X8_isWithin z a0 1 400 g) ⟨⟨Nat.le_of_ble_eq_true rfl, Nat.le_of_ble_eq_true rfl⟩, Nat.le_of_ble_eq_true rfl⟩ rfl rfl (fun q1r q1g => ?_)
  refine j_if_eq (pc := 8) (tgt := 21) dX8_rule_8 (by decide) rfl (fun hc => ?_) (fun hc => ?_)
  · refine j_iconst (pc := 21) (v := (-1)) dX8_rule_21 (by decide) ?_
    exact j_ireturn dX8_rule_22 hX rfl rfl
  · refine j_iload_n (pc := 11) 2 dX8_rule_11 rfl rfl ?_
    refine j_iconst (pc := 12) (v := 0) dX8_rule_12 (by decide) ?_
    refine j_bipush (pc := 13) (v := 50) dX8_rule_13 (by decide) ?_
    refine j_callS (pc := 15) (own := RX8) [sI a1, sI 0, sI 50] [] dX8_rule_15 lc_X8_55 ls_X8_isWithin rfl (m_X8_isWithin z a1 0 50 q1g) ⟨⟨Nat.le_of_ble_eq_true rfl, Nat.le_of_ble_eq_true rfl⟩, Nat.le_of_ble_eq_true rfl⟩ rfl rfl (fun q2r q2g => ?_)
    refine j_if_ne (pc := 18) (tgt := 23) dX8_rule_18 (by decide) rfl (fun hc => ?_) (fun hc => ?_)
    · refine j_aload_n (pc := 23) 0 dX8_rule_23 rfl rfl ?_
      refine j_getR (pc := 24) (own := RX8) dX8_rule_24 lf_X8_28 rfl rfl (fun x3 => ?_)
      refine j_callV (pc := 27) (own := RX8) [] [] dX8_rule_27 lc_X8_59 lv_Jx4a65c_isEmpty_aae02 rfl (m_Jx4a65c_isEmpty_aae02 z x3 q2g) ⟨⟨Nat.le_of_ble_eq_true rfl, Nat.le_of_ble_eq_true rfl⟩, Nat.le_of_ble_eq_true rfl⟩ rfl rfl (fun q4r q4g => ?_)
      refine j_if_ne (pc := 30) (tgt := 36) dX8_rule_30 (by decide) rfl (fun hc => ?_) (fun hc => ?_)
      · refine j_aload_n (pc := 36) 0 dX8_rule_36 rfl rfl ?_
        refine j_getR (pc := 37) (own := RX8) dX8_rule_37 lf_X8_14 rfl rfl (fun x5 => ?_)
        refine j_iload_n (pc := 40) 1 dX8_rule_40 rfl rfl ?_
        refine j_callV (pc := 41) (own := RX8) [sI a0] [] dX8_rule_41 lc_X8_63 lv_X7_reckon rfl (m_X7_reckon z x5 a0 q4g) ⟨⟨Nat.le_of_ble_eq_true rfl, Nat.le_of_ble_eq_true rfl⟩, Nat.le_of_ble_eq_true rfl⟩ rfl rfl (fun q6r q6g => ?_)
        refine j_aload_n (pc := 44) 0 dX8_rule_44 rfl rfl ?_
        refine j_iload_n (pc := 45) 2 dX8_rule_45 rfl rfl ?_
        refine j_putI (pc := 46) (own := RX8) dX8_rule_46 lf_X8_51 lt_9_11 lw_X8_51_X8_rule rfl rfl (fun g7 => ?_)
        refine j_iconst (pc := 49) (v := 1) dX8_rule_49 (by decide) ?_
        exact j_ireturn dX8_rule_50 hX rfl rfl
      · refine j_bipush (pc := 33) (v := (-4)) dX8_rule_33 (by decide) ?_
        exact j_ireturn dX8_rule_35 hX rfl rfl
    · refine j_iconst (pc := 21) (v := (-1)) dX8_rule_21 (by decide) ?_
      exact j_ireturn dX8_rule_22 hX rfl rfl
/-! X8_isCell -/
noncomputable def f_X8_isCell (z : Nat) (a0 : Int32) (g : Hp) : Option (Int32 × Hp) :=
  (f_X8_isWithin z a0 0 143 g).bind fun q1 =>
  rtZ q1.1 q1.2
set_option maxRecDepth 20000 in
theorem m_X8_isCell (z : Nat) (a0 : Int32) (g : Hp) : FM yX8_isCell cX8_isCell 1 (some .boolean) 1 22 rtI [sI a0] g (f_X8_isCell z a0 g) := by
  refine FM.entry (by decide +kernel) (Nat.le_of_ble_eq_true rfl) (fun X hX => ?_)
  unfold f_X8_isCell
  show J yX8_isCell cX8_isCell 1 (some .boolean) 1 22 X g 0 [(0, sI a0)] [] _
  refine j_iload_n (pc := 0) 0 dX8_isCell_0 rfl rfl ?_
  refine j_iconst (pc := 1) (v := 0) dX8_isCell_1 (by decide) ?_
  refine j_sipush (pc := 2) (v := 143) dX8_isCell_2 (by decide) ?_
  refine j_callS (pc := 5) (own := RX8) [sI a0, sI 0, sI 143] [] dX8_isCell_5 lc_X8_55 ls_X8_isWithin rfl (m_X8_isWithin z a0 0 143 g) ⟨⟨Nat.le_of_ble_eq_true rfl, Nat.le_of_ble_eq_true rfl⟩, Nat.le_of_ble_eq_true rfl⟩ rfl rfl (fun q1r q1g => ?_)
  exact j_zreturn dX8_isCell_8 hX rfl rfl
/-! X8_station -/
noncomputable def f_X8_station (z : Nat) (t : Option Nm) (a0 : Int32) (g : Hp) : Option (Int32 × Hp) :=
  (f_X8_isCell z a0 g).bind fun q1 =>
  if q1.1 = 0 then (some ((-1), q1.2))
  else ((getR t 9 1 q1.2).bind fun x2 =>
    (ick x2 0 (f_Jx4a65c_size_8abf5 z x2 q1.2)).bind fun q3 =>
    if q3.1 < 10 then ((getR t 9 3 q3.2).bind fun x4 =>
      (ick x4 0 (f_Jx4a65c_isEmpty_aae02 z x4 q3.2)).bind fun q5 =>
      if q5.1 = 0 then (some ((-4), q5.2))
      else ((getR t 9 1 q5.2).bind fun x6 =>
        (mkO (6, lsz q5.2 0) 6 q5.2).bind fun q7 =>
        (nnl q7.1 (f_X5_init z q7.1 a0 q7.2)).bind fun q8 =>
        (ick x6 0 (f_Jx4a65c_add_9ea2d z x6 q7.1 q8.2)).bind fun q9 =>
        (getR t 9 1 q9.2).bind fun x10 =>
        (ick x10 0 (f_Jx4a65c_size_8abf5 z x10 q9.2)).bind fun q11 =>
        some ((q11.1 - 1), q11.2)))
    else (some ((-2), q3.2)))
set_option maxRecDepth 20000 in
theorem m_X8_station (z : Nat) (t : Option Nm) (a0 : Int32) (g : Hp) : FM yX8_station cX8_station 2 (some .int) 7 149 rtI [sR t, sI a0] g (f_X8_station z t a0 g) := by
  refine FM.entry (by decide +kernel) (Nat.le_of_ble_eq_true rfl) (fun X hX => ?_)
  unfold f_X8_station
  show J yX8_station cX8_station 2 (some .int) 7 149 X g 0 [(0, sR t), (1, sI a0)] [] _
  refine j_iload_n (pc := 0) 1 dX8_station_0 rfl rfl ?_
  refine j_callS (pc := 1) (own := RX8) [sI a0] [] dX8_station_1 lc_X8_66 ls_X8_isCell rfl (m_X8_isCell z a0 g) ⟨⟨Nat.le_of_ble_eq_true rfl, Nat.le_of_ble_eq_true rfl⟩, Nat.le_of_ble_eq_true rfl⟩ rfl rfl (fun q1r q1g => ?_)
  refine j_if_ne (pc := 4) (tgt := 9) dX8_station_4 (by decide) rfl (fun hc => ?_) (fun hc => ?_)
  · refine j_aload_n (pc := 9) 0 dX8_station_9 rfl rfl ?_
    refine j_getR (pc := 10) (own := RX8) dX8_station_10 lf_X8_21 rfl rfl (fun x2 => ?_)
    refine j_callV (pc := 13) (own := RX8) [] [] dX8_station_13 lc_X8_70 lv_Jx4a65c_size_8abf5 rfl (m_Jx4a65c_size_8abf5 z x2 q1g) ⟨⟨Nat.le_of_ble_eq_true rfl, Nat.le_of_ble_eq_true rfl⟩, Nat.le_of_ble_eq_true rfl⟩ rfl rfl (fun q3r q3g => ?_)
    refine j_bipush (pc := 16) (v := 10) dX8_station_16 (by decide) ?_
    refine j_icmp_lt (pc := 18) (tgt := 24) dX8_station_18 (by decide) rfl (fun hc => ?_) (fun hc => ?_)
    · refine j_aload_n (pc := 24) 0 dX8_station_24 rfl rfl ?_
      refine j_getR (pc := 25) (own := RX8) dX8_station_25 lf_X8_28 rfl rfl (fun x4 => ?_)
      refine j_callV (pc := 28) (own := RX8) [] [] dX8_station_28 lc_X8_59 lv_Jx4a65c_isEmpty_aae02 rfl (m_Jx4a65c_isEmpty_aae02 z x4 q3g) ⟨⟨Nat.le_of_ble_eq_true rfl, Nat.le_of_ble_eq_true rfl⟩, Nat.le_of_ble_eq_true rfl⟩ rfl rfl (fun q5r q5g => ?_)
      refine j_if_ne (pc := 31) (tgt := 37) dX8_station_31 (by decide) rfl (fun hc => ?_) (fun hc => ?_)
      · refine j_aload_n (pc := 37) 0 dX8_station_37 rfl rfl ?_
        refine j_getR (pc := 38) (own := RX8) dX8_station_38 lf_X8_21 rfl rfl (fun x6 => ?_)
        refine j_mkO (pc := 41) (own := RX8) dX8_station_41 ln_X8_74 rfl rfl (fun q7r q7g => ?_)
        refine j_dup (pc := 44) dX8_station_44 rfl ?_
        refine j_iload_n (pc := 45) 1 dX8_station_45 rfl rfl ?_
        refine j_callI (pc := 46) (own := RX8) [sI a0] [sR q7r, sR x6] dX8_station_46 lc_X8_76 li_X5_init rfl (m_X5_init z q7r a0 q7g) ⟨⟨Nat.le_of_ble_eq_true rfl, Nat.le_of_ble_eq_true rfl⟩, Nat.le_of_ble_eq_true rfl⟩ rfl rfl (fun q8r q8g => ?_)
        refine j_callV (pc := 49) (own := RX8) [sR q7r] [] dX8_station_49 lc_X8_77 lv_Jx4a65c_add_9ea2d rfl (m_Jx4a65c_add_9ea2d z x6 q7r q8g) ⟨⟨Nat.le_of_ble_eq_true rfl, Nat.le_of_ble_eq_true rfl⟩, Nat.le_of_ble_eq_true rfl⟩ rfl rfl (fun q9r q9g => ?_)
        refine j_pop (pc := 52) dX8_station_52 rfl ?_
        refine j_aload_n (pc := 53) 0 dX8_station_53 rfl rfl ?_
        refine j_getR (pc := 54) (own := RX8) dX8_station_54 lf_X8_21 rfl rfl (fun x10 => ?_)
        refine j_callV (pc := 57) (own := RX8) [] [] dX8_station_57 lc_X8_70 lv_Jx4a65c_size_8abf5 rfl (m_Jx4a65c_size_8abf5 z x10 q9g) ⟨⟨Nat.le_of_ble_eq_true rfl, Nat.le_of_ble_eq_true rfl⟩, Nat.le_of_ble_eq_true rfl⟩ rfl rfl (fun q11r q11g => ?_)
        refine j_iconst (pc := 60) (v := 1) dX8_station_60 (by decide) ?_
        refine j_isub (pc := 61) dX8_station_61 ?_
        exact j_ireturn dX8_station_62 hX rfl rfl
      · refine j_bipush (pc := 34) (v := (-4)) dX8_station_34 (by decide) ?_
        exact j_ireturn dX8_station_36 hX rfl rfl
    · refine j_bipush (pc := 21) (v := (-2)) dX8_station_21 (by decide) ?_
      exact j_ireturn dX8_station_23 hX rfl rfl
  · refine j_iconst (pc := 7) (v := (-1)) dX8_station_7 (by decide) ?_
    exact j_ireturn dX8_station_8 hX rfl rfl
/-! X8_town -/
noncomputable def f_X8_town (z : Nat) (t : Option Nm) (a0 : Int32) (g : Hp) : Option (Int32 × Hp) :=
  (f_X8_isCell z a0 g).bind fun q1 =>
  if q1.1 = 0 then (some ((-1), q1.2))
  else ((getR t 9 2 q1.2).bind fun x2 =>
    (ick x2 0 (f_Jx4a65c_size_8abf5 z x2 q1.2)).bind fun q3 =>
    if q3.1 < 6 then ((getR t 9 2 q3.2).bind fun x4 =>
      (mkO (7, lsz q3.2 1) 7 q3.2).bind fun q5 =>
      (nnl q5.1 (f_X6_init z q5.1 a0 q5.2)).bind fun q6 =>
      (ick x4 0 (f_Jx4a65c_add_9ea2d z x4 q5.1 q6.2)).bind fun q7 =>
      (getR t 9 2 q7.2).bind fun x8 =>
      (ick x8 0 (f_Jx4a65c_size_8abf5 z x8 q7.2)).bind fun q9 =>
      some ((q9.1 - 1), q9.2))
    else (some ((-2), q3.2)))
set_option maxRecDepth 20000 in
theorem m_X8_town (z : Nat) (t : Option Nm) (a0 : Int32) (g : Hp) : FM yX8_town cX8_town 2 (some .int) 7 149 rtI [sR t, sI a0] g (f_X8_town z t a0 g) := by
  refine FM.entry (by decide +kernel) (Nat.le_of_ble_eq_true rfl) (fun X hX => ?_)
  unfold f_X8_town
  show J yX8_town cX8_town 2 (some .int) 7 149 X g 0 [(0, sR t), (1, sI a0)] [] _
  refine j_iload_n (pc := 0) 1 dX8_town_0 rfl rfl ?_
  refine j_callS (pc := 1) (own := RX8) [sI a0] [] dX8_town_1 lc_X8_66 ls_X8_isCell rfl (m_X8_isCell z a0 g) ⟨⟨Nat.le_of_ble_eq_true rfl, Nat.le_of_ble_eq_true rfl⟩, Nat.le_of_ble_eq_true rfl⟩ rfl rfl (fun q1r q1g => ?_)
  refine j_if_ne (pc := 4) (tgt := 9) dX8_town_4 (by decide) rfl (fun hc => ?_) (fun hc => ?_)
  · refine j_aload_n (pc := 9) 0 dX8_town_9 rfl rfl ?_
    refine j_getR (pc := 10) (own := RX8) dX8_town_10 lf_X8_25 rfl rfl (fun x2 => ?_)
    refine j_callV (pc := 13) (own := RX8) [] [] dX8_town_13 lc_X8_70 lv_Jx4a65c_size_8abf5 rfl (m_Jx4a65c_size_8abf5 z x2 q1g) ⟨⟨Nat.le_of_ble_eq_true rfl, Nat.le_of_ble_eq_true rfl⟩, Nat.le_of_ble_eq_true rfl⟩ rfl rfl (fun q3r q3g => ?_)
    refine j_bipush (pc := 16) (v := 6) dX8_town_16 (by decide) ?_
    refine j_icmp_lt (pc := 18) (tgt := 24) dX8_town_18 (by decide) rfl (fun hc => ?_) (fun hc => ?_)
    · refine j_aload_n (pc := 24) 0 dX8_town_24 rfl rfl ?_
      refine j_getR (pc := 25) (own := RX8) dX8_town_25 lf_X8_25 rfl rfl (fun x4 => ?_)
      refine j_mkO (pc := 28) (own := RX8) dX8_town_28 ln_X8_81 rfl rfl (fun q5r q5g => ?_)
      refine j_dup (pc := 31) dX8_town_31 rfl ?_
      refine j_iload_n (pc := 32) 1 dX8_town_32 rfl rfl ?_
      refine j_callI (pc := 33) (own := RX8) [sI a0] [sR q5r, sR x4] dX8_town_33 lc_X8_83 li_X6_init rfl (m_X6_init z q5r a0 q5g) ⟨⟨Nat.le_of_ble_eq_true rfl, Nat.le_of_ble_eq_true rfl⟩, Nat.le_of_ble_eq_true rfl⟩ rfl rfl (fun q6r q6g => ?_)
      refine j_callV (pc := 36) (own := RX8) [sR q5r] [] dX8_town_36 lc_X8_77 lv_Jx4a65c_add_9ea2d rfl (m_Jx4a65c_add_9ea2d z x4 q5r q6g) ⟨⟨Nat.le_of_ble_eq_true rfl, Nat.le_of_ble_eq_true rfl⟩, Nat.le_of_ble_eq_true rfl⟩ rfl rfl (fun q7r q7g => ?_)
      refine j_pop (pc := 39) dX8_town_39 rfl ?_
      refine j_aload_n (pc := 40) 0 dX8_town_40 rfl rfl ?_
      refine j_getR (pc := 41) (own := RX8) dX8_town_41 lf_X8_25 rfl rfl (fun x8 => ?_)
      refine j_callV (pc := 44) (own := RX8) [] [] dX8_town_44 lc_X8_70 lv_Jx4a65c_size_8abf5 rfl (m_Jx4a65c_size_8abf5 z x8 q7g) ⟨⟨Nat.le_of_ble_eq_true rfl, Nat.le_of_ble_eq_true rfl⟩, Nat.le_of_ble_eq_true rfl⟩ rfl rfl (fun q9r q9g => ?_)
      refine j_iconst (pc := 47) (v := 1) dX8_town_47 (by decide) ?_
      refine j_isub (pc := 48) dX8_town_48 ?_
      exact j_ireturn dX8_town_49 hX rfl rfl
    · refine j_bipush (pc := 21) (v := (-2)) dX8_town_21 (by decide) ?_
      exact j_ireturn dX8_town_23 hX rfl rfl
  · refine j_iconst (pc := 7) (v := (-1)) dX8_town_7 (by decide) ?_
    exact j_ireturn dX8_town_8 hX rfl rfl
/-! X8_travel -/
noncomputable def f_X8_travel (z : Nat) (t : Option Nm) (a0 : Int32) (a1 : Int32) (g : Hp) : Option (Int32 × Hp) :=
  (f_X8_isCell z a0 g).bind fun q1 =>
  if q1.1 = 0 then (some ((-1), q1.2))
  else ((f_X8_isCell z a1 q1.2).bind fun q2 =>
    if q2.1 = 0 then (some ((-1), q2.2))
    else ((getR t 9 0 q2.2).bind fun x3 =>
      (ick x3 8 (f_X7_between z x3 a0 a1 q2.2)).bind fun q4 =>
      some (q4.1, q4.2)))
set_option maxRecDepth 20000 in
theorem m_X8_travel (z : Nat) (t : Option Nm) (a0 : Int32) (a1 : Int32) (g : Hp) : FM yX8_travel cX8_travel 3 (some .int) 2 42 rtI [sR t, sI a0, sI a1] g (f_X8_travel z t a0 a1 g) := by
  refine FM.entry (by decide +kernel) (Nat.le_of_ble_eq_true rfl) (fun X hX => ?_)
  unfold f_X8_travel
  show J yX8_travel cX8_travel 3 (some .int) 2 42 X g 0 [(0, sR t), (1, sI a0), (2, sI a1)] [] _
  refine j_iload_n (pc := 0) 1 dX8_travel_0 rfl rfl ?_
  refine j_callS (pc := 1) (own := RX8) [sI a0] [] dX8_travel_1 lc_X8_66 ls_X8_isCell rfl (m_X8_isCell z a0 g) ⟨⟨Nat.le_of_ble_eq_true rfl, Nat.le_of_ble_eq_true rfl⟩, Nat.le_of_ble_eq_true rfl⟩ rfl rfl (fun q1r q1g => ?_)
  refine j_if_eq (pc := 4) (tgt := 14) dX8_travel_4 (by decide) rfl (fun hc => ?_) (fun hc => ?_)
  · refine j_iconst (pc := 14) (v := (-1)) dX8_travel_14 (by decide) ?_
    exact j_ireturn dX8_travel_15 hX rfl rfl
  · refine j_iload_n (pc := 7) 2 dX8_travel_7 rfl rfl ?_
    refine j_callS (pc := 8) (own := RX8) [sI a1] [] dX8_travel_8 lc_X8_66 ls_X8_isCell rfl (m_X8_isCell z a1 q1g) ⟨⟨Nat.le_of_ble_eq_true rfl, Nat.le_of_ble_eq_true rfl⟩, Nat.le_of_ble_eq_true rfl⟩ rfl rfl (fun q2r q2g => ?_)
    refine j_if_ne (pc := 11) (tgt := 16) dX8_travel_11 (by decide) rfl (fun hc => ?_) (fun hc => ?_)
    · refine j_aload_n (pc := 16) 0 dX8_travel_16 rfl rfl ?_
      refine j_getR (pc := 17) (own := RX8) dX8_travel_17 lf_X8_14 rfl rfl (fun x3 => ?_)
      refine j_iload_n (pc := 20) 1 dX8_travel_20 rfl rfl ?_
      refine j_iload_n (pc := 21) 2 dX8_travel_21 rfl rfl ?_
      refine j_callV (pc := 22) (own := RX8) [sI a0, sI a1] [] dX8_travel_22 lc_X8_98 lv_X7_between rfl (m_X7_between z x3 a0 a1 q2g) ⟨⟨Nat.le_of_ble_eq_true rfl, Nat.le_of_ble_eq_true rfl⟩, Nat.le_of_ble_eq_true rfl⟩ rfl rfl (fun q4r q4g => ?_)
      exact j_ireturn dX8_travel_25 hX rfl rfl
    · refine j_iconst (pc := 14) (v := (-1)) dX8_travel_14 (by decide) ?_
      exact j_ireturn dX8_travel_15 hX rfl rfl
/-! X8_later -/
noncomputable def f_X8_later (z : Nat) (t : Option Nm) (a0 : Int32) (g : Hp) : Option (Int32 × Hp) :=
  (getI t 9 10 g).bind fun x1 =>
  (f_X8_isWithin z a0 0 (100000 - x1) g).bind fun q2 =>
  if q2.1 = 0 then (some ((-1), q2.2))
  else ((getI t 9 10 q2.2).bind fun x3 =>
    (putI t 9 10 (x3 + a0) q2.2).bind fun g4 =>
    (getR t 9 6 g4).bind fun x5 =>
    (ick x5 1 (f_X0_forget z x5 g4)).bind fun q6 =>
    (getI t 9 10 q6.2).bind fun x7 =>
    some (x7, q6.2))
set_option maxRecDepth 20000 in
theorem m_X8_later (z : Nat) (t : Option Nm) (a0 : Int32) (g : Hp) : FM yX8_later cX8_later 2 (some .int) 1 22 rtI [sR t, sI a0] g (f_X8_later z t a0 g) := by
  refine FM.entry (by decide +kernel) (Nat.le_of_ble_eq_true rfl) (fun X hX => ?_)
  unfold f_X8_later
  show J yX8_later cX8_later 2 (some .int) 1 22 X g 0 [(0, sR t), (1, sI a0)] [] _
  refine j_iload_n (pc := 0) 1 dX8_later_0 rfl rfl ?_
  refine j_iconst (pc := 1) (v := 0) dX8_later_1 (by decide) ?_
  refine j_ldc (pc := 2) (own := RX8) (v := 100000) dX8_later_2 rfl lk_X8_102 ?_
  refine j_aload_n (pc := 4) 0 dX8_later_4 rfl rfl ?_
  refine j_getI (pc := 5) (own := RX8) dX8_later_5 lf_X8_103 rfl rfl (fun x1 => ?_)
  refine j_isub (pc := 8) dX8_later_8 ?_
  refine j_callS (pc := 9) (own := RX8) [sI a0, sI 0, sI (100000 - x1)] [] dX8_later_9 lc_X8_55 ls_X8_isWithin rfl (m_X8_isWithin z a0 0 (100000 - x1) g) ⟨⟨Nat.le_of_ble_eq_true rfl, Nat.le_of_ble_eq_true rfl⟩, Nat.le_of_ble_eq_true rfl⟩ rfl rfl (fun q2r q2g => ?_)
  refine j_if_ne (pc := 12) (tgt := 17) dX8_later_12 (by decide) rfl (fun hc => ?_) (fun hc => ?_)
  · refine j_aload_n (pc := 17) 0 dX8_later_17 rfl rfl ?_
    refine j_dup (pc := 18) dX8_later_18 rfl ?_
    refine j_getI (pc := 19) (own := RX8) dX8_later_19 lf_X8_103 rfl rfl (fun x3 => ?_)
    refine j_iload_n (pc := 22) 1 dX8_later_22 rfl rfl ?_
    refine j_iadd (pc := 23) dX8_later_23 ?_
    refine j_putI (pc := 24) (own := RX8) dX8_later_24 lf_X8_103 lt_9_10 lw_X8_103_X8_later rfl rfl (fun g4 => ?_)
    refine j_aload_n (pc := 27) 0 dX8_later_27 rfl rfl ?_
    refine j_getR (pc := 28) (own := RX8) dX8_later_28 lf_X8_40 rfl rfl (fun x5 => ?_)
    refine j_callV (pc := 31) (own := RX8) [] [] dX8_later_31 lc_X8_95 lv_X0_forget rfl (m_X0_forget z x5 g4) ⟨⟨Nat.le_of_ble_eq_true rfl, Nat.le_of_ble_eq_true rfl⟩, Nat.le_of_ble_eq_true rfl⟩ rfl rfl (fun q6r q6g => ?_)
    refine j_aload_n (pc := 34) 0 dX8_later_34 rfl rfl ?_
    refine j_getI (pc := 35) (own := RX8) dX8_later_35 lf_X8_103 rfl rfl (fun x7 => ?_)
    exact j_ireturn dX8_later_38 hX rfl rfl
  · refine j_iconst (pc := 15) (v := (-1)) dX8_later_15 (by decide) ?_
    exact j_ireturn dX8_later_16 hX rfl rfl
/-! X8_isStation -/
noncomputable def f_X8_isStation (z : Nat) (t : Option Nm) (a0 : Int32) (g : Hp) : Option (Int32 × Hp) :=
  (getR t 9 1 g).bind fun x1 =>
  (ick x1 0 (f_Jx4a65c_size_8abf5 z x1 g)).bind fun q2 =>
  (f_X8_isWithin z a0 0 (q2.1 - 1) q2.2).bind fun q3 =>
  rtZ q3.1 q3.2
set_option maxRecDepth 20000 in
theorem m_X8_isStation (z : Nat) (t : Option Nm) (a0 : Int32) (g : Hp) : FM yX8_isStation cX8_isStation 2 (some .boolean) 1 22 rtI [sR t, sI a0] g (f_X8_isStation z t a0 g) := by
  refine FM.entry (by decide +kernel) (Nat.le_of_ble_eq_true rfl) (fun X hX => ?_)
  unfold f_X8_isStation
  show J yX8_isStation cX8_isStation 2 (some .boolean) 1 22 X g 0 [(0, sR t), (1, sI a0)] [] _
  refine j_iload_n (pc := 0) 1 dX8_isStation_0 rfl rfl ?_
  refine j_iconst (pc := 1) (v := 0) dX8_isStation_1 (by decide) ?_
  refine j_aload_n (pc := 2) 0 dX8_isStation_2 rfl rfl ?_
  refine j_getR (pc := 3) (own := RX8) dX8_isStation_3 lf_X8_21 rfl rfl (fun x1 => ?_)
  refine j_callV (pc := 6) (own := RX8) [] [sI 0, sI a0] dX8_isStation_6 lc_X8_70 lv_Jx4a65c_size_8abf5 rfl (m_Jx4a65c_size_8abf5 z x1 g) ⟨⟨Nat.le_of_ble_eq_true rfl, Nat.le_of_ble_eq_true rfl⟩, Nat.le_of_ble_eq_true rfl⟩ rfl rfl (fun q2r q2g => ?_)
  refine j_iconst (pc := 9) (v := 1) dX8_isStation_9 (by decide) ?_
  refine j_isub (pc := 10) dX8_isStation_10 ?_
  refine j_callS (pc := 11) (own := RX8) [sI a0, sI 0, sI (q2r - 1)] [] dX8_isStation_11 lc_X8_55 ls_X8_isWithin rfl (m_X8_isWithin z a0 0 (q2r - 1) q2g) ⟨⟨Nat.le_of_ble_eq_true rfl, Nat.le_of_ble_eq_true rfl⟩, Nat.le_of_ble_eq_true rfl⟩ rfl rfl (fun q3r q3g => ?_)
  exact j_zreturn dX8_isStation_14 hX rfl rfl
/-! X8_fillHeap -/
noncomputable def f_X8_fillHeap_10_b (z : Nat) (p0 : Option Nm) (p1 : Option Nm) (p2 : Int32) (p3 : Int32) (rec : Int32 → Hp → Option (Int32 × Hp)) (v4 : Int32) (g : Hp) : Option (Int32 × Hp) :=
  (getR p0 9 1 g).bind fun x3 =>
  (ick x3 0 (f_Jx4a65c_size_8abf5 z x3 g)).bind fun q4 =>
  if q4.1 ≤ v4 then (some (v4, q4.2))
  else ((getR p0 9 1 q4.2).bind fun x5 =>
    (ick x5 0 (f_Jx4a65c_get_915e3 z x5 v4 q4.2)).bind fun q6 =>
    (ckc q6.1 6).bind fun _ =>
    ((if v4 = p2 then (some (p3))
      else ((getR p1 4 2 q6.2).bind fun x8 =>
        (aldI x8 v4 q6.2).bind fun x9 =>
        some (x9))) : Option (Int32)).bind fun q10 =>
    if q10 = (-1) then ((getI q6.1 6 2 q6.2).bind fun x11 =>
      if x11 = 0 then ((getR p0 9 6 q6.2).bind fun x12 =>
        (getR p0 9 0 q6.2).bind fun x13 =>
        (getI q6.1 6 0 q6.2).bind fun x14 =>
        (getI p0 9 10 q6.2).bind fun x15 =>
        (getI p0 9 11 q6.2).bind fun x16 =>
        (ick x12 1 (f_X0_narrow z x12 x13 x14 (x15 - x16) 1000000 q6.2)).bind fun q17 =>
        rec (v4 + 1) q17.2)
      else (rec (v4 + 1) q6.2))
    else ((getR p0 9 6 q6.2).bind fun x18 =>
      (getR p0 9 0 q6.2).bind fun x19 =>
      (getI q6.1 6 0 q6.2).bind fun x20 =>
      (getI p0 9 11 q6.2).bind fun x21 =>
      (getI p0 9 11 q6.2).bind fun x22 =>
      (ick x18 1 (f_X0_narrow z x18 x19 x20 (q10 - x21) (q10 + x22) q6.2)).bind fun q23 =>
      rec (v4 + 1) q23.2))
noncomputable def f_X8_fillHeap_10_L (z : Nat) (p0 : Option Nm) (p1 : Option Nm) (p2 : Int32) (p3 : Int32) : Nat → Int32 → Hp → Option (Int32 × Hp)
  | 0, _, _ => none
  | n + 1, v4, g => f_X8_fillHeap_10_b z p0 p1 p2 p3 (f_X8_fillHeap_10_L z p0 p1 p2 p3 n) v4 g
noncomputable def f_X8_fillHeap (z : Nat) (t : Option Nm) (a0 : Option Nm) (a1 : Int32) (a2 : Int32) (g : Hp) : Option (Unit × Hp) :=
  (getR t 9 6 g).bind fun x1 =>
  (ick x1 1 (f_X0_clear z x1 g)).bind fun q2 =>
  (f_X8_fillHeap_10_L z t a0 a1 a2 z 0 q2.2).bind fun q24 =>
  (getR t 9 6 q24.2).bind fun x25 =>
  (ick x25 1 (f_X0_countCells z x25 q24.2)).bind fun q26 =>
  some ((), q26.2)
set_option maxRecDepth 20000 in
theorem b_X8_fillHeap_10 {X : Xt Unit} (hX : IsM rtV X) (z : Nat) (p0 : Option Nm) (p1 : Option Nm) (p2 : Int32) (p3 : Int32) (rec : Int32 → Hp → Option (Int32 × Hp)) (K : Int32 × Hp → Option (Unit × Hp)) (he : ∀ (v4 : Int32) (g : Hp), J yX8_fillHeap cX8_fillHeap 7 none 3 64 X g 135 [(4, sI v4), (0, sR p0), (1, sR p1), (2, sI p2), (3, sI p3)] [] (K (v4, g))) (hr : ∀ (v4 : Int32) (g : Hp), J yX8_fillHeap cX8_fillHeap 7 none 3 64 X g 10 [(4, sI v4), (0, sR p0), (1, sR p1), (2, sI p2), (3, sI p3)] [] ((rec v4 g).bind K)) (v4 : Int32) (g : Hp) : J yX8_fillHeap cX8_fillHeap 7 none 3 64 X g 10 [(4, sI v4), (0, sR p0), (1, sR p1), (2, sI p2), (3, sI p3)] [] ((f_X8_fillHeap_10_b z p0 p1 p2 p3 rec v4 g).bind K) := by
  unfold f_X8_fillHeap_10_b
  refine j_iload (pc := 10) 0 dX8_fillHeap_10 rfl ?_
  refine j_aload_n (pc := 12) 1 dX8_fillHeap_12 rfl rfl ?_
  refine j_getR (pc := 13) (own := RX8) dX8_fillHeap_13 lf_X8_21 rfl bb (fun x3 => ?_)
  refine j_callV (pc := 16) (own := RX8) [] [sI v4] dX8_fillHeap_16 lc_X8_70 lv_Jx4a65c_size_8abf5 rfl (m_Jx4a65c_size_8abf5 z x3 g) ⟨⟨Nat.le_of_ble_eq_true rfl, Nat.le_of_ble_eq_true rfl⟩, Nat.le_of_ble_eq_true rfl⟩ rfl bb (fun q4r q4g => ?_)
  refine j_icmp_ge (pc := 19) (tgt := 135) dX8_fillHeap_19 (by decide) bi (fun hc => ?_) (fun hc => ?_)
  · exact he v4 q4g
  · refine j_aload_n (pc := 22) 1 dX8_fillHeap_22 rfl rfl ?_
    refine j_getR (pc := 23) (own := RX8) dX8_fillHeap_23 lf_X8_21 rfl bb (fun x5 => ?_)
    refine j_iload (pc := 26) 0 dX8_fillHeap_26 rfl ?_
    refine j_callV (pc := 28) (own := RX8) [sI v4] [] dX8_fillHeap_28 lc_X8_87 lv_Jx4a65c_get_915e3 rfl (m_Jx4a65c_get_915e3 z x5 v4 q4g) ⟨⟨Nat.le_of_ble_eq_true rfl, Nat.le_of_ble_eq_true rfl⟩, Nat.le_of_ble_eq_true rfl⟩ rfl bb (fun q6r q6g => ?_)
    refine b_cst (pc := 31) (own := RX8) (c := 6) dX8_fillHeap_31 rfl (by decide) lq_X8_74 bb ?_
    refine j_astore (pc := 34) (lv' := [(5, sR q6r), (4, sI v4), (0, sR p0), (1, sR p1), (2, sI p2), (3, sI p3)]) dX8_fillHeap_34 (by decide) rfl ?_
    refine j_iload (pc := 36) 1 dX8_fillHeap_36 rfl ?_
    refine j_iload_n (pc := 38) 4 dX8_fillHeap_38 rfl rfl ?_
    refine J.eq bb ?_
    refine J.jn (σ := Int32) (fun q10 pr => J yX8_fillHeap cX8_fillHeap 7 none 3 64 X q6g 53 [(5, sR q6r), (4, sI v4), (0, sR p0), (1, sR p1), (2, sI p2), (3, sI p3)] [sI q10] pr) (fun K53 hK53 => ?_) (fun q10 => ?_)
    · refine j_icmp_ne (pc := 39) (tgt := 46) dX8_fillHeap_39 (by decide) bi (fun hc => ?_) (fun hc => ?_)
      · refine j_aload_n (pc := 46) 3 dX8_fillHeap_46 rfl rfl ?_
        refine j_getR (pc := 47) (own := RX8) dX8_fillHeap_47 lf_X8_325 rfl bb (fun x8 => ?_)
        refine j_iload (pc := 50) 1 dX8_fillHeap_50 rfl ?_
        refine j_aldI (pc := 52) dX8_fillHeap_52 bb (fun x9 => ?_)
        exact hK53 (x9)
      · refine j_iload_n (pc := 42) 5 dX8_fillHeap_42 rfl rfl ?_
        refine j_goto (pc := 43) (tgt := 53) dX8_fillHeap_43 (by decide) ?_
        exact hK53 (p3)
    · refine j_istore (pc := 53) (lv' := [(6, sI q10), (5, sR q6r), (4, sI v4), (0, sR p0), (1, sR p1), (2, sI p2), (3, sI p3)]) dX8_fillHeap_53 (by decide) rfl ?_
      refine j_iload (pc := 55) 0 dX8_fillHeap_55 rfl ?_
      refine j_iconst (pc := 57) (v := (-1)) dX8_fillHeap_57 (by decide) ?_
      refine j_icmp_eq (pc := 58) (tgt := 94) dX8_fillHeap_58 (by decide) bi (fun hc => ?_) (fun hc => ?_)
      · refine j_aload (pc := 94) 1 dX8_fillHeap_94 rfl ?_
        refine j_getI (pc := 96) (own := RX8) dX8_fillHeap_96 lf_X8_91 rfl bb (fun x11 => ?_)
        refine j_if_ne (pc := 99) (tgt := 129) dX8_fillHeap_99 (by decide) bi (fun hc => ?_) (fun hc => ?_)
        · refine j_iinc (pc := 129) (v := (v4 + 1)) (lv' := [(4, sI (v4 + 1)), (6, sI q10), (5, sR q6r), (0, sR p0), (1, sR p1), (2, sI p2), (3, sI p3)]) 2 dX8_fillHeap_129 rfl rfl (by decide) rfl ?_
          refine j_goto (pc := 132) (tgt := 10) dX8_fillHeap_132 (by decide) ?_
          refine J.sub [0, 3, 4, 5, 6] rfl ?_
          exact hr (v4 + 1) q6g
        · refine j_aload_n (pc := 102) 3 dX8_fillHeap_102 rfl rfl ?_
          refine j_getR (pc := 103) (own := RX8) dX8_fillHeap_103 lf_X8_40 rfl bb (fun x12 => ?_)
          refine j_aload_n (pc := 106) 3 dX8_fillHeap_106 rfl rfl ?_
          refine j_getR (pc := 107) (own := RX8) dX8_fillHeap_107 lf_X8_14 rfl bb (fun x13 => ?_)
          refine j_aload (pc := 110) 1 dX8_fillHeap_110 rfl ?_
          refine j_getI (pc := 112) (own := RX8) dX8_fillHeap_112 lf_X8_312 rfl bb (fun x14 => ?_)
          refine j_aload_n (pc := 115) 3 dX8_fillHeap_115 rfl rfl ?_
          refine j_getI (pc := 116) (own := RX8) dX8_fillHeap_116 lf_X8_103 rfl bb (fun x15 => ?_)
          refine j_aload_n (pc := 119) 3 dX8_fillHeap_119 rfl rfl ?_
          refine j_getI (pc := 120) (own := RX8) dX8_fillHeap_120 lf_X8_51 rfl bb (fun x16 => ?_)
          refine j_isub (pc := 123) dX8_fillHeap_123 ?_
          refine j_ldc (pc := 124) (own := RX8) (v := 1000000) dX8_fillHeap_124 rfl lk_X8_149 ?_
          refine j_callV (pc := 126) (own := RX8) [sR x13, sI x14, sI (x15 - x16), sI 1000000] [] dX8_fillHeap_126 lc_X8_328 lv_X0_narrow rfl (m_X0_narrow z x12 x13 x14 (x15 - x16) 1000000 q6g) ⟨⟨Nat.le_of_ble_eq_true rfl, Nat.le_of_ble_eq_true rfl⟩, Nat.le_of_ble_eq_true rfl⟩ rfl bb (fun q17r q17g => ?_)
          refine j_iinc (pc := 129) (v := (v4 + 1)) (lv' := [(4, sI (v4 + 1)), (6, sI q10), (5, sR q6r), (0, sR p0), (1, sR p1), (2, sI p2), (3, sI p3)]) 2 dX8_fillHeap_129 rfl rfl (by decide) rfl ?_
          refine j_goto (pc := 132) (tgt := 10) dX8_fillHeap_132 (by decide) ?_
          refine J.sub [0, 3, 4, 5, 6] rfl ?_
          exact hr (v4 + 1) q17g
      · refine j_aload_n (pc := 61) 3 dX8_fillHeap_61 rfl rfl ?_
        refine j_getR (pc := 62) (own := RX8) dX8_fillHeap_62 lf_X8_40 rfl bb (fun x18 => ?_)
        refine j_aload_n (pc := 65) 3 dX8_fillHeap_65 rfl rfl ?_
        refine j_getR (pc := 66) (own := RX8) dX8_fillHeap_66 lf_X8_14 rfl bb (fun x19 => ?_)
        refine j_aload (pc := 69) 1 dX8_fillHeap_69 rfl ?_
        refine j_getI (pc := 71) (own := RX8) dX8_fillHeap_71 lf_X8_312 rfl bb (fun x20 => ?_)
        refine j_iload (pc := 74) 0 dX8_fillHeap_74 rfl ?_
        refine j_aload_n (pc := 76) 3 dX8_fillHeap_76 rfl rfl ?_
        refine j_getI (pc := 77) (own := RX8) dX8_fillHeap_77 lf_X8_51 rfl bb (fun x21 => ?_)
        refine j_isub (pc := 80) dX8_fillHeap_80 ?_
        refine j_iload (pc := 81) 0 dX8_fillHeap_81 rfl ?_
        refine j_aload_n (pc := 83) 3 dX8_fillHeap_83 rfl rfl ?_
        refine j_getI (pc := 84) (own := RX8) dX8_fillHeap_84 lf_X8_51 rfl bb (fun x22 => ?_)
        refine j_iadd (pc := 87) dX8_fillHeap_87 ?_
        refine j_callV (pc := 88) (own := RX8) [sR x19, sI x20, sI (q10 - x21), sI (q10 + x22)] [] dX8_fillHeap_88 lc_X8_328 lv_X0_narrow rfl (m_X0_narrow z x18 x19 x20 (q10 - x21) (q10 + x22) q6g) ⟨⟨Nat.le_of_ble_eq_true rfl, Nat.le_of_ble_eq_true rfl⟩, Nat.le_of_ble_eq_true rfl⟩ rfl bb (fun q23r q23g => ?_)
        refine j_goto (pc := 91) (tgt := 129) dX8_fillHeap_91 (by decide) ?_
        refine j_iinc (pc := 129) (v := (v4 + 1)) (lv' := [(4, sI (v4 + 1)), (6, sI q10), (5, sR q6r), (0, sR p0), (1, sR p1), (2, sI p2), (3, sI p3)]) 2 dX8_fillHeap_129 rfl rfl (by decide) rfl ?_
        refine j_goto (pc := 132) (tgt := 10) dX8_fillHeap_132 (by decide) ?_
        refine J.sub [0, 3, 4, 5, 6] rfl ?_
        exact hr (v4 + 1) q23g
set_option maxRecDepth 20000 in
theorem l_X8_fillHeap_10 {X : Xt Unit} (hX : IsM rtV X) (z : Nat) (p0 : Option Nm) (p1 : Option Nm) (p2 : Int32) (p3 : Int32) (K : Int32 × Hp → Option (Unit × Hp)) (he : ∀ (v4 : Int32) (g : Hp), J yX8_fillHeap cX8_fillHeap 7 none 3 64 X g 135 [(4, sI v4), (0, sR p0), (1, sR p1), (2, sI p2), (3, sI p3)] [] (K (v4, g))) : ∀ (n : Nat) (v4 : Int32) (g : Hp), J yX8_fillHeap cX8_fillHeap 7 none 3 64 X g 10 [(4, sI v4), (0, sR p0), (1, sR p1), (2, sI p2), (3, sI p3)] [] ((f_X8_fillHeap_10_L z p0 p1 p2 p3 n v4 g).bind K)
  | 0, _, _ => J.eq rfl J.none
  | n + 1, v4, g => b_X8_fillHeap_10 hX z p0 p1 p2 p3 _ K he (fun v4 g => l_X8_fillHeap_10 hX z p0 p1 p2 p3 K he n v4 g) v4 g
set_option maxRecDepth 20000 in
theorem m_X8_fillHeap (z : Nat) (t : Option Nm) (a0 : Option Nm) (a1 : Int32) (a2 : Int32) (g : Hp) : FM yX8_fillHeap cX8_fillHeap 7 none 3 64 rtV [sR t, sR a0, sI a1, sI a2] g (f_X8_fillHeap z t a0 a1 a2 g) := by
  refine FM.entry (by decide +kernel) (Nat.le_of_ble_eq_true rfl) (fun X hX => ?_)
  unfold f_X8_fillHeap
  show J yX8_fillHeap cX8_fillHeap 7 none 3 64 X g 0 [(0, sR t), (1, sR a0), (2, sI a1), (3, sI a2)] [] _
  refine j_aload_n (pc := 0) 0 dX8_fillHeap_0 rfl rfl ?_
  refine j_getR (pc := 1) (own := RX8) dX8_fillHeap_1 lf_X8_40 rfl rfl (fun x1 => ?_)
  refine j_callV (pc := 4) (own := RX8) [] [] dX8_fillHeap_4 lc_X8_322 lv_X0_clear rfl (m_X0_clear z x1 g) ⟨⟨Nat.le_of_ble_eq_true rfl, Nat.le_of_ble_eq_true rfl⟩, Nat.le_of_ble_eq_true rfl⟩ rfl rfl (fun q2r q2g => ?_)
  refine j_iconst (pc := 7) (v := 0) dX8_fillHeap_7 (by decide) ?_
  refine j_istore (pc := 8) (lv' := [(4, sI 0), (0, sR t), (1, sR a0), (2, sI a1), (3, sI a2)]) dX8_fillHeap_8 (by decide) rfl ?_
  refine l_X8_fillHeap_10 hX z t a0 a1 a2 _ (fun q24_0 q24_g => ?_) z 0 q2g
  refine j_aload_n (pc := 135) 1 dX8_fillHeap_135 rfl rfl ?_
  refine j_getR (pc := 136) (own := RX8) dX8_fillHeap_136 lf_X8_40 rfl rfl (fun x25 => ?_)
  refine j_callV (pc := 139) (own := RX8) [] [] dX8_fillHeap_139 lc_X8_332 lv_X0_countCells rfl (m_X0_countCells z x25 q24_g) ⟨⟨Nat.le_of_ble_eq_true rfl, Nat.le_of_ble_eq_true rfl⟩, Nat.le_of_ble_eq_true rfl⟩ rfl rfl (fun q26r q26g => ?_)
  exact j_return dX8_fillHeap_142 hX rfl rfl
/-! X8_bits -/
noncomputable def f_X8_bits (z : Nat) (a0 : Int32) (g : Hp) : Option (Int32 × Hp) :=
  (f_J6_numberOfLeadingZeros_0f7a4 z a0 g).bind fun q1 =>
  some ((32 - q1.1), q1.2)
set_option maxRecDepth 20000 in
theorem m_X8_bits (z : Nat) (a0 : Int32) (g : Hp) : FM yX8_bits cX8_bits 1 (some .int) 1 21 rtI [sI a0] g (f_X8_bits z a0 g) := by
  refine FM.entry (by decide +kernel) (Nat.le_of_ble_eq_true rfl) (fun X hX => ?_)
  unfold f_X8_bits
  show J yX8_bits cX8_bits 1 (some .int) 1 21 X g 0 [(0, sI a0)] [] _
  refine j_bipush (pc := 0) (v := 32) dX8_bits_0 (by decide) ?_
  refine j_iload_n (pc := 2) 0 dX8_bits_2 rfl rfl ?_
  refine j_callS (pc := 3) (own := RX8) [sI a0] [sI 32] dX8_bits_3 lc_X8_291 ls_J6_numberOfLeadingZeros_0f7a4 rfl (m_J6_numberOfLeadingZeros_0f7a4 z a0 g) ⟨⟨Nat.le_of_ble_eq_true rfl, Nat.le_of_ble_eq_true rfl⟩, Nat.le_of_ble_eq_true rfl⟩ rfl rfl (fun q1r q1g => ?_)
  refine j_isub (pc := 6) dX8_bits_6 ?_
  exact j_ireturn dX8_bits_7 hX rfl rfl
/-! X0_measure -/
noncomputable def f_X0_measure_15_b (z : Nat) (p0 : Option Nm) (p1 : Option Nm) (p2 : Int32) (p3 : Int32) (rec : Int32 → Hp → Option (Int32 × Hp)) (v4 : Int32) (g : Hp) : Option (Int32 × Hp) :=
  if 144 ≤ v4 then (some (v4, g))
  else ((ick p0 1 (f_X0_has z p0 v4 g)).bind fun q3 =>
    if q3.1 = 0 then (rec (v4 + 1) q3.2)
    else ((ick p1 8 (f_X7_between z p1 v4 p2 q3.2)).bind fun q4 =>
      (f_X8_bits z (p3 * (q4.1 + 1)) q4.2).bind fun q5 =>
      (getI p0 1 3 q5.2).bind fun x6 =>
      ((if x6 = (-9) then ((putI p0 1 3 q5.1 q5.2).bind fun g7 =>
          some (g7))
        else ((getI p0 1 3 q5.2).bind fun x8 =>
          if x8 ≤ q5.1 then (some (q5.2))
          else ((putI p0 1 3 q5.1 q5.2).bind fun g9 =>
            some (g9)))) : Option (Hp)).bind fun q10 =>
      (getI p0 1 4 q10).bind fun x11 =>
      if q5.1 ≤ x11 then (rec (v4 + 1) q10)
      else ((putI p0 1 4 q5.1 q10).bind fun g12 =>
        rec (v4 + 1) g12)))
noncomputable def f_X0_measure_15_L (z : Nat) (p0 : Option Nm) (p1 : Option Nm) (p2 : Int32) (p3 : Int32) : Nat → Int32 → Hp → Option (Int32 × Hp)
  | 0, _, _ => none
  | n + 1, v4, g => f_X0_measure_15_b z p0 p1 p2 p3 (f_X0_measure_15_L z p0 p1 p2 p3 n) v4 g
noncomputable def f_X0_measure (z : Nat) (t : Option Nm) (a0 : Option Nm) (a1 : Int32) (a2 : Int32) (g : Hp) : Option (Unit × Hp) :=
  (putI t 1 3 (-9) g).bind fun g1 =>
  (putI t 1 4 (-9) g1).bind fun g2 =>
  (f_X0_measure_15_L z t a0 a1 a2 z 0 g2).bind fun q13 =>
  some ((), q13.2)
set_option maxRecDepth 20000 in
theorem b_X0_measure_15 {X : Xt Unit} (hX : IsM rtV X) (z : Nat) (p0 : Option Nm) (p1 : Option Nm) (p2 : Int32) (p3 : Int32) (rec : Int32 → Hp → Option (Int32 × Hp)) (K : Int32 × Hp → Option (Unit × Hp)) (he : ∀ (v4 : Int32) (g : Hp), J yX0_measure cX0_measure 6 none 2 41 X g 96 [(4, sI v4), (0, sR p0), (1, sR p1), (2, sI p2), (3, sI p3)] [] (K (v4, g))) (hr : ∀ (v4 : Int32) (g : Hp), J yX0_measure cX0_measure 6 none 2 41 X g 15 [(4, sI v4), (0, sR p0), (1, sR p1), (2, sI p2), (3, sI p3)] [] ((rec v4 g).bind K)) (v4 : Int32) (g : Hp) : J yX0_measure cX0_measure 6 none 2 41 X g 15 [(4, sI v4), (0, sR p0), (1, sR p1), (2, sI p2), (3, sI p3)] [] ((f_X0_measure_15_b z p0 p1 p2 p3 rec v4 g).bind K) := by
  unfold f_X0_measure_15_b
  refine j_iload (pc := 15) 0 dX0_measure_15 rfl ?_
  refine j_sipush (pc := 17) (v := 144) dX0_measure_17 (by decide) ?_
  refine j_icmp_ge (pc := 20) (tgt := 96) dX0_measure_20 (by decide) bi (fun hc => ?_) (fun hc => ?_)
  · exact he v4 g
  · refine j_aload_n (pc := 23) 1 dX0_measure_23 rfl rfl ?_
    refine j_iload (pc := 24) 0 dX0_measure_24 rfl ?_
    refine j_callV (pc := 26) (own := RX0) [sI v4] [] dX0_measure_26 lc_X0_41 lv_X0_has rfl (m_X0_has z p0 v4 g) ⟨⟨Nat.le_of_ble_eq_true rfl, Nat.le_of_ble_eq_true rfl⟩, Nat.le_of_ble_eq_true rfl⟩ rfl bb (fun q3r q3g => ?_)
    refine j_if_ne (pc := 29) (tgt := 35) dX0_measure_29 (by decide) bi (fun hc => ?_) (fun hc => ?_)
    · refine j_iload_n (pc := 35) 4 dX0_measure_35 rfl rfl ?_
      refine j_aload_n (pc := 36) 2 dX0_measure_36 rfl rfl ?_
      refine j_iload (pc := 37) 0 dX0_measure_37 rfl ?_
      refine j_iload_n (pc := 39) 3 dX0_measure_39 rfl rfl ?_
      refine j_callV (pc := 40) (own := RX0) [sI v4, sI p2] [sI p3] dX0_measure_40 lc_X0_24 lv_X7_between rfl (m_X7_between z p1 v4 p2 q3g) ⟨⟨Nat.le_of_ble_eq_true rfl, Nat.le_of_ble_eq_true rfl⟩, Nat.le_of_ble_eq_true rfl⟩ rfl bb (fun q4r q4g => ?_)
      refine j_iconst (pc := 43) (v := 1) dX0_measure_43 (by decide) ?_
      refine j_iadd (pc := 44) dX0_measure_44 ?_
      refine j_imul (pc := 45) dX0_measure_45 ?_
      refine j_callS (pc := 46) (own := RX0) [sI (p3 * (q4r + 1))] [] dX0_measure_46 lc_X0_51 ls_X8_bits rfl (m_X8_bits z (p3 * (q4r + 1)) q4g) ⟨⟨Nat.le_of_ble_eq_true rfl, Nat.le_of_ble_eq_true rfl⟩, Nat.le_of_ble_eq_true rfl⟩ rfl bb (fun q5r q5g => ?_)
      refine j_istore (pc := 49) (lv' := [(5, sI q5r), (4, sI v4), (0, sR p0), (1, sR p1), (2, sI p2), (3, sI p3)]) dX0_measure_49 (by decide) rfl ?_
      refine j_aload_n (pc := 51) 2 dX0_measure_51 rfl rfl ?_
      refine j_getI (pc := 52) (own := RX0) dX0_measure_52 lf_X0_45 rfl bb (fun x6 => ?_)
      refine j_bipush (pc := 55) (v := (-9)) dX0_measure_55 (by decide) ?_
      refine J.eq bb ?_
      refine J.jn (σ := Hp) (fun q10 pr => J yX0_measure cX0_measure 6 none 2 41 X q10 75 [(5, sI q5r), (4, sI v4), (0, sR p0), (1, sR p1), (2, sI p2), (3, sI p3)] [] pr) (fun K75 hK75 => ?_) (fun q10 => ?_)
      · refine j_icmp_eq (pc := 57) (tgt := 69) dX0_measure_57 (by decide) bi (fun hc => ?_) (fun hc => ?_)
        · refine j_aload_n (pc := 69) 2 dX0_measure_69 rfl rfl ?_
          refine j_iload (pc := 70) 0 dX0_measure_70 rfl ?_
          refine j_putI (pc := 72) (own := RX0) dX0_measure_72 lf_X0_45 lt_1_3 lw_X0_45_X0_measure rfl bb (fun g7 => ?_)
          exact hK75 (g7)
        · refine j_iload (pc := 60) 0 dX0_measure_60 rfl ?_
          refine j_aload_n (pc := 62) 2 dX0_measure_62 rfl rfl ?_
          refine j_getI (pc := 63) (own := RX0) dX0_measure_63 lf_X0_45 rfl bb (fun x8 => ?_)
          refine j_icmp_ge (pc := 66) (tgt := 75) dX0_measure_66 (by decide) bi (fun hc => ?_) (fun hc => ?_)
          · exact hK75 (q5g)
          · refine j_aload_n (pc := 69) 2 dX0_measure_69 rfl rfl ?_
            refine j_iload (pc := 70) 0 dX0_measure_70 rfl ?_
            refine j_putI (pc := 72) (own := RX0) dX0_measure_72 lf_X0_45 lt_1_3 lw_X0_45_X0_measure rfl bb (fun g9 => ?_)
            exact hK75 (g9)
      · refine j_iload (pc := 75) 0 dX0_measure_75 rfl ?_
        refine j_aload_n (pc := 77) 2 dX0_measure_77 rfl rfl ?_
        refine j_getI (pc := 78) (own := RX0) dX0_measure_78 lf_X0_48 rfl bb (fun x11 => ?_)
        refine j_icmp_le (pc := 81) (tgt := 90) dX0_measure_81 (by decide) bi (fun hc => ?_) (fun hc => ?_)
        · refine j_iinc (pc := 90) (v := (v4 + 1)) (lv' := [(4, sI (v4 + 1)), (5, sI q5r), (0, sR p0), (1, sR p1), (2, sI p2), (3, sI p3)]) 1 dX0_measure_90 rfl rfl (by decide) rfl ?_
          refine j_goto (pc := 93) (tgt := 15) dX0_measure_93 (by decide) ?_
          refine J.sub [0, 2, 3, 4, 5] rfl ?_
          exact hr (v4 + 1) q10
        · refine j_aload_n (pc := 84) 2 dX0_measure_84 rfl rfl ?_
          refine j_iload (pc := 85) 0 dX0_measure_85 rfl ?_
          refine j_putI (pc := 87) (own := RX0) dX0_measure_87 lf_X0_48 lt_1_4 lw_X0_48_X0_measure rfl bb (fun g12 => ?_)
          refine j_iinc (pc := 90) (v := (v4 + 1)) (lv' := [(4, sI (v4 + 1)), (5, sI q5r), (0, sR p0), (1, sR p1), (2, sI p2), (3, sI p3)]) 1 dX0_measure_90 rfl rfl (by decide) rfl ?_
          refine j_goto (pc := 93) (tgt := 15) dX0_measure_93 (by decide) ?_
          refine J.sub [0, 2, 3, 4, 5] rfl ?_
          exact hr (v4 + 1) g12
    · refine j_goto (pc := 32) (tgt := 90) dX0_measure_32 (by decide) ?_
      refine j_iinc (pc := 90) (v := (v4 + 1)) (lv' := [(4, sI (v4 + 1)), (0, sR p0), (1, sR p1), (2, sI p2), (3, sI p3)]) 0 dX0_measure_90 rfl rfl (by decide) rfl ?_
      refine j_goto (pc := 93) (tgt := 15) dX0_measure_93 (by decide) ?_
      exact hr (v4 + 1) q3g
set_option maxRecDepth 20000 in
theorem l_X0_measure_15 {X : Xt Unit} (hX : IsM rtV X) (z : Nat) (p0 : Option Nm) (p1 : Option Nm) (p2 : Int32) (p3 : Int32) (K : Int32 × Hp → Option (Unit × Hp)) (he : ∀ (v4 : Int32) (g : Hp), J yX0_measure cX0_measure 6 none 2 41 X g 96 [(4, sI v4), (0, sR p0), (1, sR p1), (2, sI p2), (3, sI p3)] [] (K (v4, g))) : ∀ (n : Nat) (v4 : Int32) (g : Hp), J yX0_measure cX0_measure 6 none 2 41 X g 15 [(4, sI v4), (0, sR p0), (1, sR p1), (2, sI p2), (3, sI p3)] [] ((f_X0_measure_15_L z p0 p1 p2 p3 n v4 g).bind K)
  | 0, _, _ => J.eq rfl J.none
  | n + 1, v4, g => b_X0_measure_15 hX z p0 p1 p2 p3 _ K he (fun v4 g => l_X0_measure_15 hX z p0 p1 p2 p3 K he n v4 g) v4 g
set_option maxRecDepth 20000 in
theorem m_X0_measure (z : Nat) (t : Option Nm) (a0 : Option Nm) (a1 : Int32) (a2 : Int32) (g : Hp) : FM yX0_measure cX0_measure 6 none 2 41 rtV [sR t, sR a0, sI a1, sI a2] g (f_X0_measure z t a0 a1 a2 g) := by
  refine FM.entry (by decide +kernel) (Nat.le_of_ble_eq_true rfl) (fun X hX => ?_)
  unfold f_X0_measure
  show J yX0_measure cX0_measure 6 none 2 41 X g 0 [(0, sR t), (1, sR a0), (2, sI a1), (3, sI a2)] [] _
  refine j_aload_n (pc := 0) 0 dX0_measure_0 rfl rfl ?_
  refine j_bipush (pc := 1) (v := (-9)) dX0_measure_1 (by decide) ?_
  refine j_putI (pc := 3) (own := RX0) dX0_measure_3 lf_X0_45 lt_1_3 lw_X0_45_X0_measure rfl rfl (fun g1 => ?_)
  refine j_aload_n (pc := 6) 0 dX0_measure_6 rfl rfl ?_
  refine j_bipush (pc := 7) (v := (-9)) dX0_measure_7 (by decide) ?_
  refine j_putI (pc := 9) (own := RX0) dX0_measure_9 lf_X0_48 lt_1_4 lw_X0_48_X0_measure rfl rfl (fun g2 => ?_)
  refine j_iconst (pc := 12) (v := 0) dX0_measure_12 (by decide) ?_
  refine j_istore (pc := 13) (lv' := [(4, sI 0), (0, sR t), (1, sR a0), (2, sI a1), (3, sI a2)]) dX0_measure_13 (by decide) rfl ?_
  refine l_X0_measure_15 hX z t a0 a1 a2 _ (fun q13_0 q13_g => ?_) z 0 g2
  exact j_return dX0_measure_96 hX rfl rfl
/-! X8_heapOf -/
noncomputable def f_X8_heapOf (z : Nat) (t : Option Nm) (a0 : Int32) (g : Hp) : Option ((Option Nm) × Hp) :=
  (getR t 9 6 g).bind fun x1 =>
  (getI x1 1 5 g).bind fun x2 =>
  if x2 = a0 then ((getR t 9 6 g).bind fun x3 =>
    some (x3, g))
  else ((getR t 9 4 g).bind fun x4 =>
    (ick x4 0 (f_Jx4a65c_get_915e3 z x4 a0 g)).bind fun q5 =>
    (ckc q5.1 4).bind fun _ =>
    (ick t 9 (f_X8_fillHeap z t q5.1 (-9) (-1) q5.2)).bind fun q7 =>
    (getR t 9 6 q7.2).bind fun x8 =>
    (getR t 9 0 q7.2).bind fun x9 =>
    (getR t 9 1 q7.2).bind fun x10 =>
    (getI q5.1 4 0 q7.2).bind fun x11 =>
    (ick x10 0 (f_Jx4a65c_get_915e3 z x10 x11 q7.2)).bind fun q12 =>
    (ckc q12.1 6).bind fun _ =>
    (getI q12.1 6 0 q12.2).bind fun x14 =>
    (getI q5.1 4 1 q12.2).bind fun x15 =>
    (ick x8 1 (f_X0_measure z x8 x9 x14 x15 q12.2)).bind fun q16 =>
    (getR t 9 6 q16.2).bind fun x17 =>
    (putI x17 1 5 a0 q16.2).bind fun g18 =>
    (getR t 9 6 g18).bind fun x19 =>
    some (x19, g18))
set_option maxRecDepth 20000 in
theorem m_X8_heapOf (z : Nat) (t : Option Nm) (a0 : Int32) (g : Hp) : FM yX8_heapOf cX8_heapOf 3 (some (.object "FirstSeconds$Heap")) 4 90 rtR [sR t, sI a0] g (f_X8_heapOf z t a0 g) := by
  refine FM.entry (by decide +kernel) (Nat.le_of_ble_eq_true rfl) (fun X hX => ?_)
  unfold f_X8_heapOf
  show J yX8_heapOf cX8_heapOf 3 (some (.object "FirstSeconds$Heap")) 4 90 X g 0 [(0, sR t), (1, sI a0)] [] _
  refine j_aload_n (pc := 0) 0 dX8_heapOf_0 rfl rfl ?_
  refine j_getR (pc := 1) (own := RX8) dX8_heapOf_1 lf_X8_40 rfl rfl (fun x1 => ?_)
  refine j_getI (pc := 4) (own := RX8) dX8_heapOf_4 lf_X8_308 rfl rfl (fun x2 => ?_)
  refine j_iload_n (pc := 7) 1 dX8_heapOf_7 rfl rfl ?_
  refine j_icmp_eq (pc := 8) (tgt := 71) dX8_heapOf_8 (by decide) rfl (fun hc => ?_) (fun hc => ?_)
  · refine j_aload_n (pc := 71) 0 dX8_heapOf_71 rfl rfl ?_
    refine j_getR (pc := 72) (own := RX8) dX8_heapOf_72 lf_X8_40 rfl rfl (fun x3 => ?_)
    exact j_areturn dX8_heapOf_75 hX rfl (Or.inl ⟨_, rfl⟩) rfl
  · refine j_aload_n (pc := 11) 0 dX8_heapOf_11 rfl rfl ?_
    refine j_getR (pc := 12) (own := RX8) dX8_heapOf_12 lf_X8_31 rfl rfl (fun x4 => ?_)
    refine j_iload_n (pc := 15) 1 dX8_heapOf_15 rfl rfl ?_
    refine j_callV (pc := 16) (own := RX8) [sI a0] [] dX8_heapOf_16 lc_X8_87 lv_Jx4a65c_get_915e3 rfl (m_Jx4a65c_get_915e3 z x4 a0 g) ⟨⟨Nat.le_of_ble_eq_true rfl, Nat.le_of_ble_eq_true rfl⟩, Nat.le_of_ble_eq_true rfl⟩ rfl rfl (fun q5r q5g => ?_)
    refine b_cst (pc := 19) (own := RX8) (c := 4) dX8_heapOf_19 rfl (by decide) lq_X8_153 rfl ?_
    refine j_astore_n (pc := 22) (lv' := [(2, sR q5r), (0, sR t), (1, sI a0)]) dX8_heapOf_22 rfl (by decide) rfl ?_
    refine j_aload_n (pc := 23) 1 dX8_heapOf_23 rfl rfl ?_
    refine j_aload_n (pc := 24) 0 dX8_heapOf_24 rfl rfl ?_
    refine j_bipush (pc := 25) (v := (-9)) dX8_heapOf_25 (by decide) ?_
    refine j_iconst (pc := 27) (v := (-1)) dX8_heapOf_27 (by decide) ?_
    refine j_callV (pc := 28) (own := RX8) [sR q5r, sI (-9), sI (-1)] [] dX8_heapOf_28 lc_X8_304 lv_X8_fillHeap rfl (m_X8_fillHeap z t q5r (-9) (-1) q5g) ⟨⟨Nat.le_of_ble_eq_true rfl, Nat.le_of_ble_eq_true rfl⟩, Nat.le_of_ble_eq_true rfl⟩ rfl rfl (fun q7r q7g => ?_)
    refine j_aload_n (pc := 31) 1 dX8_heapOf_31 rfl rfl ?_
    refine j_getR (pc := 32) (own := RX8) dX8_heapOf_32 lf_X8_40 rfl rfl (fun x8 => ?_)
    refine j_aload_n (pc := 35) 1 dX8_heapOf_35 rfl rfl ?_
    refine j_getR (pc := 36) (own := RX8) dX8_heapOf_36 lf_X8_14 rfl rfl (fun x9 => ?_)
    refine j_aload_n (pc := 39) 1 dX8_heapOf_39 rfl rfl ?_
    refine j_getR (pc := 40) (own := RX8) dX8_heapOf_40 lf_X8_21 rfl rfl (fun x10 => ?_)
    refine j_aload_n (pc := 43) 0 dX8_heapOf_43 rfl rfl ?_
    refine j_getI (pc := 44) (own := RX8) dX8_heapOf_44 lf_X8_309 rfl rfl (fun x11 => ?_)
    refine j_callV (pc := 47) (own := RX8) [sI x11] [sR x9, sR x8] dX8_heapOf_47 lc_X8_87 lv_Jx4a65c_get_915e3 rfl (m_Jx4a65c_get_915e3 z x10 x11 q7g) ⟨⟨Nat.le_of_ble_eq_true rfl, Nat.le_of_ble_eq_true rfl⟩, Nat.le_of_ble_eq_true rfl⟩ rfl rfl (fun q12r q12g => ?_)
    refine b_cst (pc := 50) (own := RX8) (c := 6) dX8_heapOf_50 rfl (by decide) lq_X8_74 rfl ?_
    refine j_getI (pc := 53) (own := RX8) dX8_heapOf_53 lf_X8_312 rfl rfl (fun x14 => ?_)
    refine j_aload_n (pc := 56) 0 dX8_heapOf_56 rfl rfl ?_
    refine j_getI (pc := 57) (own := RX8) dX8_heapOf_57 lf_X8_315 rfl rfl (fun x15 => ?_)
    refine j_callV (pc := 60) (own := RX8) [sR x9, sI x14, sI x15] [] dX8_heapOf_60 lc_X8_318 lv_X0_measure rfl (m_X0_measure z x8 x9 x14 x15 q12g) ⟨⟨Nat.le_of_ble_eq_true rfl, Nat.le_of_ble_eq_true rfl⟩, Nat.le_of_ble_eq_true rfl⟩ rfl rfl (fun q16r q16g => ?_)
    refine j_aload_n (pc := 63) 1 dX8_heapOf_63 rfl rfl ?_
    refine j_getR (pc := 64) (own := RX8) dX8_heapOf_64 lf_X8_40 rfl rfl (fun x17 => ?_)
    refine j_iload_n (pc := 67) 2 dX8_heapOf_67 rfl rfl ?_
    refine j_putI (pc := 68) (own := RX8) dX8_heapOf_68 lf_X8_308 lt_1_5 lw_X8_308_X8_heapOf rfl rfl (fun g18 => ?_)
    refine j_aload_n (pc := 71) 1 dX8_heapOf_71 rfl rfl ?_
    refine j_getR (pc := 72) (own := RX8) dX8_heapOf_72 lf_X8_40 rfl rfl (fun x19 => ?_)
    exact j_areturn dX8_heapOf_75 hX rfl (Or.inl ⟨_, rfl⟩) rfl
/-! X8_takes -/
noncomputable def f_X8_takes (z : Nat) (t : Option Nm) (a0 : Int32) (a1 : Int32) (a2 : Int32) (g : Hp) : Option (Int32 × Hp) :=
  (getR t 9 4 g).bind fun x1 =>
  (ick x1 0 (f_Jx4a65c_get_915e3 z x1 a0 g)).bind fun q2 =>
  (ckc q2.1 4).bind fun _ =>
  (ick q2.1 4 (f_X3_hears z q2.1 a1 q2.2)).bind fun q4 =>
  if q4.1 = 0 then ((ick t 9 (f_X8_heapOf z t a0 q4.2)).bind fun q5 =>
    (getI q5.1 1 2 q5.2).bind fun x6 =>
    if x6 = 0 then (rtZ 0 q5.2)
    else ((ick t 9 (f_X8_fillHeap z t q2.1 a1 a2 q5.2)).bind fun q7 =>
      (getR t 9 6 q7.2).bind fun x8 =>
      (getI x8 1 2 q7.2).bind fun x9 =>
      if x9 ≤ 0 then (rtZ 0 q7.2)
      else (rtZ 1 q7.2)))
  else (rtZ 0 q4.2)
set_option maxRecDepth 20000 in
theorem m_X8_takes (z : Nat) (t : Option Nm) (a0 : Int32) (a1 : Int32) (a2 : Int32) (g : Hp) : FM yX8_takes cX8_takes 5 (some .boolean) 5 112 rtI [sR t, sI a0, sI a1, sI a2] g (f_X8_takes z t a0 a1 a2 g) := by
  refine FM.entry (by decide +kernel) (Nat.le_of_ble_eq_true rfl) (fun X hX => ?_)
  unfold f_X8_takes
  show J yX8_takes cX8_takes 5 (some .boolean) 5 112 X g 0 [(0, sR t), (1, sI a0), (2, sI a1), (3, sI a2)] [] _
  refine j_aload_n (pc := 0) 0 dX8_takes_0 rfl rfl ?_
  refine j_getR (pc := 1) (own := RX8) dX8_takes_1 lf_X8_31 rfl rfl (fun x1 => ?_)
  refine j_iload_n (pc := 4) 1 dX8_takes_4 rfl rfl ?_
  refine j_callV (pc := 5) (own := RX8) [sI a0] [] dX8_takes_5 lc_X8_87 lv_Jx4a65c_get_915e3 rfl (m_Jx4a65c_get_915e3 z x1 a0 g) ⟨⟨Nat.le_of_ble_eq_true rfl, Nat.le_of_ble_eq_true rfl⟩, Nat.le_of_ble_eq_true rfl⟩ rfl rfl (fun q2r q2g => ?_)
  refine b_cst (pc := 8) (own := RX8) (c := 4) dX8_takes_8 rfl (by decide) lq_X8_153 rfl ?_
  refine j_astore (pc := 11) (lv' := [(4, sR q2r), (0, sR t), (1, sI a0), (2, sI a1), (3, sI a2)]) dX8_takes_11 (by decide) rfl ?_
  refine j_aload (pc := 13) 0 dX8_takes_13 rfl ?_
  refine j_iload_n (pc := 15) 3 dX8_takes_15 rfl rfl ?_
  refine j_callV (pc := 16) (own := RX8) [sI a1] [] dX8_takes_16 lc_X8_301 lv_X3_hears rfl (m_X3_hears z q2r a1 q2g) ⟨⟨Nat.le_of_ble_eq_true rfl, Nat.le_of_ble_eq_true rfl⟩, Nat.le_of_ble_eq_true rfl⟩ rfl rfl (fun q4r q4g => ?_)
  refine j_if_ne (pc := 19) (tgt := 33) dX8_takes_19 (by decide) rfl (fun hc => ?_) (fun hc => ?_)
  · refine j_iconst (pc := 33) (v := 0) dX8_takes_33 (by decide) ?_
    exact j_zreturn dX8_takes_34 hX rfl rfl
  · refine j_aload_n (pc := 22) 1 dX8_takes_22 rfl rfl ?_
    refine j_iload_n (pc := 23) 2 dX8_takes_23 rfl rfl ?_
    refine j_callV (pc := 24) (own := RX8) [sI a0] [] dX8_takes_24 lc_X8_194 lv_X8_heapOf rfl (m_X8_heapOf z t a0 q4g) ⟨⟨Nat.le_of_ble_eq_true rfl, Nat.le_of_ble_eq_true rfl⟩, Nat.le_of_ble_eq_true rfl⟩ rfl rfl (fun q5r q5g => ?_)
    refine j_getI (pc := 27) (own := RX8) dX8_takes_27 lf_X8_198 rfl rfl (fun x6 => ?_)
    refine j_if_ne (pc := 30) (tgt := 35) dX8_takes_30 (by decide) rfl (fun hc => ?_) (fun hc => ?_)
    · refine j_aload_n (pc := 35) 1 dX8_takes_35 rfl rfl ?_
      refine j_aload (pc := 36) 0 dX8_takes_36 rfl ?_
      refine j_iload_n (pc := 38) 3 dX8_takes_38 rfl rfl ?_
      refine j_iload_n (pc := 39) 4 dX8_takes_39 rfl rfl ?_
      refine j_callV (pc := 40) (own := RX8) [sR q2r, sI a1, sI a2] [] dX8_takes_40 lc_X8_304 lv_X8_fillHeap rfl (m_X8_fillHeap z t q2r a1 a2 q5g) ⟨⟨Nat.le_of_ble_eq_true rfl, Nat.le_of_ble_eq_true rfl⟩, Nat.le_of_ble_eq_true rfl⟩ rfl rfl (fun q7r q7g => ?_)
      refine j_aload_n (pc := 43) 1 dX8_takes_43 rfl rfl ?_
      refine j_getR (pc := 44) (own := RX8) dX8_takes_44 lf_X8_40 rfl rfl (fun x8 => ?_)
      refine j_getI (pc := 47) (own := RX8) dX8_takes_47 lf_X8_198 rfl rfl (fun x9 => ?_)
      refine j_if_le (pc := 50) (tgt := 57) dX8_takes_50 (by decide) rfl (fun hc => ?_) (fun hc => ?_)
      · refine j_iconst (pc := 57) (v := 0) dX8_takes_57 (by decide) ?_
        exact j_zreturn dX8_takes_58 hX rfl rfl
      · refine j_iconst (pc := 53) (v := 1) dX8_takes_53 (by decide) ?_
        refine j_goto (pc := 54) (tgt := 58) dX8_takes_54 (by decide) ?_
        exact j_zreturn dX8_takes_58 hX rfl rfl
    · refine j_iconst (pc := 33) (v := 0) dX8_takes_33 (by decide) ?_
      exact j_zreturn dX8_takes_34 hX rfl rfl
/-! X8_takerOf -/
noncomputable def f_X8_takerOf_2_b (z : Nat) (p0 : Option Nm) (p1 : Int32) (p2 : Int32) (rec : Int32 → Hp → Option (Int32 × Hp)) (v3 : Int32) (g : Hp) : Option (Int32 × Hp) :=
  (getR p0 9 4 g).bind fun x1 =>
  (ick x1 0 (f_Jx4a65c_size_8abf5 z x1 g)).bind fun q2 =>
  if q2.1 ≤ v3 then (some ((-9), q2.2))
  else ((ick p0 9 (f_X8_takes z p0 v3 p1 p2 q2.2)).bind fun q3 =>
    if q3.1 = 0 then (rec (v3 + 1) q3.2)
    else (some (v3, q3.2)))
noncomputable def f_X8_takerOf_2_L (z : Nat) (p0 : Option Nm) (p1 : Int32) (p2 : Int32) : Nat → Int32 → Hp → Option (Int32 × Hp)
  | 0, _, _ => none
  | n + 1, v3, g => f_X8_takerOf_2_b z p0 p1 p2 (f_X8_takerOf_2_L z p0 p1 p2 n) v3 g
noncomputable def f_X8_takerOf (z : Nat) (t : Option Nm) (a0 : Int32) (a1 : Int32) (g : Hp) : Option (Int32 × Hp) :=
  f_X8_takerOf_2_L z t a0 a1 z 0 g
set_option maxRecDepth 20000 in
theorem b_X8_takerOf_2 {X : Xt Int32} (hX : IsM rtI X) (z : Nat) (p0 : Option Nm) (p1 : Int32) (p2 : Int32) (rec : Int32 → Hp → Option (Int32 × Hp)) (hr : ∀ (v3 : Int32) (g : Hp), J yX8_takerOf cX8_takerOf 4 (some .int) 6 136 X g 2 [(3, sI v3), (0, sR p0), (1, sI p1), (2, sI p2)] [] (rec v3 g)) (v3 : Int32) (g : Hp) : J yX8_takerOf cX8_takerOf 4 (some .int) 6 136 X g 2 [(3, sI v3), (0, sR p0), (1, sI p1), (2, sI p2)] [] (f_X8_takerOf_2_b z p0 p1 p2 rec v3 g) := by
  unfold f_X8_takerOf_2_b
  refine j_iload_n (pc := 2) 0 dX8_takerOf_2 rfl rfl ?_
  refine j_aload_n (pc := 3) 1 dX8_takerOf_3 rfl rfl ?_
  refine j_getR (pc := 4) (own := RX8) dX8_takerOf_4 lf_X8_31 rfl rfl (fun x1 => ?_)
  refine j_callV (pc := 7) (own := RX8) [] [sI v3] dX8_takerOf_7 lc_X8_70 lv_Jx4a65c_size_8abf5 rfl (m_Jx4a65c_size_8abf5 z x1 g) ⟨⟨Nat.le_of_ble_eq_true rfl, Nat.le_of_ble_eq_true rfl⟩, Nat.le_of_ble_eq_true rfl⟩ rfl rfl (fun q2r q2g => ?_)
  refine j_icmp_ge (pc := 10) (tgt := 31) dX8_takerOf_10 (by decide) rfl (fun hc => ?_) (fun hc => ?_)
  · refine j_bipush (pc := 31) (v := (-9)) dX8_takerOf_31 (by decide) ?_
    exact j_ireturn dX8_takerOf_33 hX rfl rfl
  · refine j_aload_n (pc := 13) 1 dX8_takerOf_13 rfl rfl ?_
    refine j_iload_n (pc := 14) 0 dX8_takerOf_14 rfl rfl ?_
    refine j_iload_n (pc := 15) 2 dX8_takerOf_15 rfl rfl ?_
    refine j_iload_n (pc := 16) 3 dX8_takerOf_16 rfl rfl ?_
    refine j_callV (pc := 17) (own := RX8) [sI v3, sI p1, sI p2] [] dX8_takerOf_17 lc_X8_298 lv_X8_takes rfl (m_X8_takes z p0 v3 p1 p2 q2g) ⟨⟨Nat.le_of_ble_eq_true rfl, Nat.le_of_ble_eq_true rfl⟩, Nat.le_of_ble_eq_true rfl⟩ rfl rfl (fun q3r q3g => ?_)
    refine j_if_eq (pc := 20) (tgt := 25) dX8_takerOf_20 (by decide) rfl (fun hc => ?_) (fun hc => ?_)
    · refine j_iinc (pc := 25) (v := (v3 + 1)) (lv' := [(3, sI (v3 + 1)), (0, sR p0), (1, sI p1), (2, sI p2)]) 0 dX8_takerOf_25 rfl rfl (by decide) rfl ?_
      refine j_goto (pc := 28) (tgt := 2) dX8_takerOf_28 (by decide) ?_
      exact hr (v3 + 1) q3g
    · refine j_iload_n (pc := 23) 0 dX8_takerOf_23 rfl rfl ?_
      exact j_ireturn dX8_takerOf_24 hX rfl rfl
set_option maxRecDepth 20000 in
theorem l_X8_takerOf_2 {X : Xt Int32} (hX : IsM rtI X) (z : Nat) (p0 : Option Nm) (p1 : Int32) (p2 : Int32) : ∀ (n : Nat) (v3 : Int32) (g : Hp), J yX8_takerOf cX8_takerOf 4 (some .int) 6 136 X g 2 [(3, sI v3), (0, sR p0), (1, sI p1), (2, sI p2)] [] (f_X8_takerOf_2_L z p0 p1 p2 n v3 g)
  | 0, _, _ => J.none
  | n + 1, v3, g => b_X8_takerOf_2 hX z p0 p1 p2 _ (fun v3 g => l_X8_takerOf_2 hX z p0 p1 p2 n v3 g) v3 g
set_option maxRecDepth 20000 in
theorem m_X8_takerOf (z : Nat) (t : Option Nm) (a0 : Int32) (a1 : Int32) (g : Hp) : FM yX8_takerOf cX8_takerOf 4 (some .int) 6 136 rtI [sR t, sI a0, sI a1] g (f_X8_takerOf z t a0 a1 g) := by
  refine FM.entry (by decide +kernel) (Nat.le_of_ble_eq_true rfl) (fun X hX => ?_)
  unfold f_X8_takerOf
  show J yX8_takerOf cX8_takerOf 4 (some .int) 6 136 X g 0 [(0, sR t), (1, sI a0), (2, sI a1)] [] _
  refine j_iconst (pc := 0) (v := 0) dX8_takerOf_0 (by decide) ?_
  refine j_istore_n (pc := 1) (lv' := [(3, sI 0), (0, sR t), (1, sI a0), (2, sI a1)]) dX8_takerOf_1 rfl (by decide) rfl ?_
  exact l_X8_takerOf_2 hX z t a0 a1 z 0 g
/-! X8_pick -/
noncomputable def f_X8_pick (z : Nat) (t : Option Nm) (a0 : Int32) (a1 : Int32) (a2 : Int32) (g : Hp) : Option (Int32 × Hp) :=
  (ick t 9 (f_X8_isStation z t a0 g)).bind fun q1 =>
  if q1.1 = 0 then (some ((-1), q1.2))
  else ((getI t 9 10 q1.2).bind fun x2 =>
    (f_X8_isWithin z a1 0 x2 q1.2).bind fun q3 =>
    if q3.1 = 0 then (some ((-1), q3.2))
    else ((f_X8_isWithin z a2 1 1000000 q3.2).bind fun q4 =>
      if q4.1 = 0 then (some ((-1), q4.2))
      else ((getR t 9 3 q4.2).bind fun x5 =>
        (ick x5 0 (f_Jx4a65c_size_8abf5 z x5 q4.2)).bind fun q6 =>
        if q6.1 < 60 then ((ick t 9 (f_X8_takerOf z t a0 a1 q6.2)).bind fun q7 =>
          if q7.1 = (-9) then ((getR t 9 4 q7.2).bind fun x8 =>
            (ick x8 0 (f_Jx4a65c_size_8abf5 z x8 q7.2)).bind fun q9 =>
            if 5 ≤ q9.1 then ((getR t 9 3 q9.2).bind fun x10 =>
              (mkO (3, lsz q9.2 2) 3 q9.2).bind fun q11 =>
              (nnl q11.1 (f_X2_init z q11.1 a0 a1 a2 3 (-9) q11.2)).bind fun q12 =>
              (ick x10 0 (f_Jx4a65c_add_9ea2d z x10 q11.1 q12.2)).bind fun q13 =>
              some ((-9), q13.2))
            else ((getR t 9 4 q9.2).bind fun x14 =>
              (ick x14 0 (f_Jx4a65c_size_8abf5 z x14 q9.2)).bind fun q15 =>
              (getR t 9 4 q15.2).bind fun x16 =>
              (mkO (4, lsz q15.2 3) 4 q15.2).bind fun q17 =>
              (nnl q17.1 (f_X3_init z q17.1 a0 a1 a2 q17.2)).bind fun q18 =>
              (ick x16 0 (f_Jx4a65c_add_9ea2d z x16 q17.1 q18.2)).bind fun q19 =>
              (getR t 9 3 q19.2).bind fun x20 =>
              (mkO (3, lsz q19.2 2) 3 q19.2).bind fun q21 =>
              (nnl q21.1 (f_X2_init z q21.1 a0 a1 a2 2 q15.1 q21.2)).bind fun q22 =>
              (ick x20 0 (f_Jx4a65c_add_9ea2d z x20 q21.1 q22.2)).bind fun q23 =>
              some ((10 + q15.1), q23.2)))
          else ((getR t 9 4 q7.2).bind fun x24 =>
            (ick x24 0 (f_Jx4a65c_get_915e3 z x24 q7.1 q7.2)).bind fun q25 =>
            (ckc q25.1 4).bind fun _ =>
            (ick q25.1 4 (f_X3_hear z q25.1 a0 a1 q25.2)).bind fun q27 =>
            (getR t 9 6 q27.2).bind fun x28 =>
            (ick x28 1 (f_X0_forget z x28 q27.2)).bind fun q29 =>
            (getR t 9 3 q29.2).bind fun x30 =>
            (mkO (3, lsz q29.2 2) 3 q29.2).bind fun q31 =>
            (nnl q31.1 (f_X2_init z q31.1 a0 a1 a2 1 q7.1 q31.2)).bind fun q32 =>
            (ick x30 0 (f_Jx4a65c_add_9ea2d z x30 q31.1 q32.2)).bind fun q33 =>
            some (q7.1, q33.2)))
        else (some ((-2), q6.2)))))
set_option maxRecDepth 20000 in
theorem m_X8_pick (z : Nat) (t : Option Nm) (a0 : Int32) (a1 : Int32) (a2 : Int32) (g : Hp) : FM yX8_pick cX8_pick 6 (some .int) 7 159 rtI [sR t, sI a0, sI a1, sI a2] g (f_X8_pick z t a0 a1 a2 g) := by
  refine FM.entry (by decide +kernel) (Nat.le_of_ble_eq_true rfl) (fun X hX => ?_)
  unfold f_X8_pick
  show J yX8_pick cX8_pick 6 (some .int) 7 159 X g 0 [(0, sR t), (1, sI a0), (2, sI a1), (3, sI a2)] [] _
  refine j_aload_n (pc := 0) 0 dX8_pick_0 rfl rfl ?_
  refine j_iload_n (pc := 1) 1 dX8_pick_1 rfl rfl ?_
  refine j_callV (pc := 2) (own := RX8) [sI a0] [] dX8_pick_2 lc_X8_84 lv_X8_isStation rfl (m_X8_isStation z t a0 g) ⟨⟨Nat.le_of_ble_eq_true rfl, Nat.le_of_ble_eq_true rfl⟩, Nat.le_of_ble_eq_true rfl⟩ rfl rfl (fun q1r q1g => ?_)
  refine j_if_ne (pc := 5) (tgt := 10) dX8_pick_5 (by decide) rfl (fun hc => ?_) (fun hc => ?_)
  · refine j_iload_n (pc := 10) 2 dX8_pick_10 rfl rfl ?_
    refine j_iconst (pc := 11) (v := 0) dX8_pick_11 (by decide) ?_
    refine j_aload_n (pc := 12) 0 dX8_pick_12 rfl rfl ?_
    refine j_getI (pc := 13) (own := RX8) dX8_pick_13 lf_X8_103 rfl rfl (fun x2 => ?_)
    refine j_callS (pc := 16) (own := RX8) [sI a1, sI 0, sI x2] [] dX8_pick_16 lc_X8_55 ls_X8_isWithin rfl (m_X8_isWithin z a1 0 x2 q1g) ⟨⟨Nat.le_of_ble_eq_true rfl, Nat.le_of_ble_eq_true rfl⟩, Nat.le_of_ble_eq_true rfl⟩ rfl rfl (fun q3r q3g => ?_)
    refine j_if_eq (pc := 19) (tgt := 32) dX8_pick_19 (by decide) rfl (fun hc => ?_) (fun hc => ?_)
    · refine j_iconst (pc := 32) (v := (-1)) dX8_pick_32 (by decide) ?_
      exact j_ireturn dX8_pick_33 hX rfl rfl
    · refine j_iload_n (pc := 22) 3 dX8_pick_22 rfl rfl ?_
      refine j_iconst (pc := 23) (v := 1) dX8_pick_23 (by decide) ?_
      refine j_ldc (pc := 24) (own := RX8) (v := 1000000) dX8_pick_24 rfl lk_X8_149 ?_
      refine j_callS (pc := 26) (own := RX8) [sI a2, sI 1, sI 1000000] [] dX8_pick_26 lc_X8_55 ls_X8_isWithin rfl (m_X8_isWithin z a2 1 1000000 q3g) ⟨⟨Nat.le_of_ble_eq_true rfl, Nat.le_of_ble_eq_true rfl⟩, Nat.le_of_ble_eq_true rfl⟩ rfl rfl (fun q4r q4g => ?_)
      refine j_if_ne (pc := 29) (tgt := 34) dX8_pick_29 (by decide) rfl (fun hc => ?_) (fun hc => ?_)
      · refine j_aload_n (pc := 34) 0 dX8_pick_34 rfl rfl ?_
        refine j_getR (pc := 35) (own := RX8) dX8_pick_35 lf_X8_28 rfl rfl (fun x5 => ?_)
        refine j_callV (pc := 38) (own := RX8) [] [] dX8_pick_38 lc_X8_70 lv_Jx4a65c_size_8abf5 rfl (m_Jx4a65c_size_8abf5 z x5 q4g) ⟨⟨Nat.le_of_ble_eq_true rfl, Nat.le_of_ble_eq_true rfl⟩, Nat.le_of_ble_eq_true rfl⟩ rfl rfl (fun q6r q6g => ?_)
        refine j_bipush (pc := 41) (v := 60) dX8_pick_41 (by decide) ?_
        refine j_icmp_lt (pc := 43) (tgt := 49) dX8_pick_43 (by decide) rfl (fun hc => ?_) (fun hc => ?_)
        · refine j_aload_n (pc := 49) 0 dX8_pick_49 rfl rfl ?_
          refine j_iload_n (pc := 50) 1 dX8_pick_50 rfl rfl ?_
          refine j_iload_n (pc := 51) 2 dX8_pick_51 rfl rfl ?_
          refine j_callV (pc := 52) (own := RX8) [sI a0, sI a1] [] dX8_pick_52 lc_X8_150 lv_X8_takerOf rfl (m_X8_takerOf z t a0 a1 q6g) ⟨⟨Nat.le_of_ble_eq_true rfl, Nat.le_of_ble_eq_true rfl⟩, Nat.le_of_ble_eq_true rfl⟩ rfl rfl (fun q7r q7g => ?_)
          refine j_istore (pc := 55) (lv' := [(4, sI q7r), (0, sR t), (1, sI a0), (2, sI a1), (3, sI a2)]) dX8_pick_55 (by decide) rfl ?_
          refine j_iload (pc := 57) 0 dX8_pick_57 rfl ?_
          refine j_bipush (pc := 59) (v := (-9)) dX8_pick_59 (by decide) ?_
          refine j_icmp_eq (pc := 61) (tgt := 112) dX8_pick_61 (by decide) rfl (fun hc => ?_) (fun hc => ?_)
          · refine j_aload_n (pc := 112) 1 dX8_pick_112 rfl rfl ?_
            refine j_getR (pc := 113) (own := RX8) dX8_pick_113 lf_X8_31 rfl rfl (fun x8 => ?_)
            refine j_callV (pc := 116) (own := RX8) [] [] dX8_pick_116 lc_X8_70 lv_Jx4a65c_size_8abf5 rfl (m_Jx4a65c_size_8abf5 z x8 q7g) ⟨⟨Nat.le_of_ble_eq_true rfl, Nat.le_of_ble_eq_true rfl⟩, Nat.le_of_ble_eq_true rfl⟩ rfl rfl (fun q9r q9g => ?_)
            refine j_iconst (pc := 119) (v := 5) dX8_pick_119 (by decide) ?_
            refine j_icmp_ge (pc := 120) (tgt := 177) dX8_pick_120 (by decide) rfl (fun hc => ?_) (fun hc => ?_)
            · refine j_aload_n (pc := 177) 1 dX8_pick_177 rfl rfl ?_
              refine j_getR (pc := 178) (own := RX8) dX8_pick_178 lf_X8_28 rfl rfl (fun x10 => ?_)
              refine j_mkO (pc := 181) (own := RX8) dX8_pick_181 ln_X8_159 rfl rfl (fun q11r q11g => ?_)
              refine j_dup (pc := 184) dX8_pick_184 rfl ?_
              refine j_iload_n (pc := 185) 2 dX8_pick_185 rfl rfl ?_
              refine j_iload_n (pc := 186) 3 dX8_pick_186 rfl rfl ?_
              refine j_iload_n (pc := 187) 4 dX8_pick_187 rfl rfl ?_
              refine j_iconst (pc := 188) (v := 3) dX8_pick_188 (by decide) ?_
              refine j_bipush (pc := 189) (v := (-9)) dX8_pick_189 (by decide) ?_
              refine j_callI (pc := 191) (own := RX8) [sI a0, sI a1, sI a2, sI 3, sI (-9)] [sR q11r, sR x10] dX8_pick_191 lc_X8_161 li_X2_init rfl (m_X2_init z q11r a0 a1 a2 3 (-9) q11g) ⟨⟨Nat.le_of_ble_eq_true rfl, Nat.le_of_ble_eq_true rfl⟩, Nat.le_of_ble_eq_true rfl⟩ rfl rfl (fun q12r q12g => ?_)
              refine j_callV (pc := 194) (own := RX8) [sR q11r] [] dX8_pick_194 lc_X8_77 lv_Jx4a65c_add_9ea2d rfl (m_Jx4a65c_add_9ea2d z x10 q11r q12g) ⟨⟨Nat.le_of_ble_eq_true rfl, Nat.le_of_ble_eq_true rfl⟩, Nat.le_of_ble_eq_true rfl⟩ rfl rfl (fun q13r q13g => ?_)
              refine j_pop (pc := 197) dX8_pick_197 rfl ?_
              refine j_bipush (pc := 198) (v := (-9)) dX8_pick_198 (by decide) ?_
              exact j_ireturn dX8_pick_200 hX rfl rfl
            · refine j_aload_n (pc := 123) 1 dX8_pick_123 rfl rfl ?_
              refine j_getR (pc := 124) (own := RX8) dX8_pick_124 lf_X8_31 rfl rfl (fun x14 => ?_)
              refine j_callV (pc := 127) (own := RX8) [] [] dX8_pick_127 lc_X8_70 lv_Jx4a65c_size_8abf5 rfl (m_Jx4a65c_size_8abf5 z x14 q9g) ⟨⟨Nat.le_of_ble_eq_true rfl, Nat.le_of_ble_eq_true rfl⟩, Nat.le_of_ble_eq_true rfl⟩ rfl rfl (fun q15r q15g => ?_)
              refine j_istore (pc := 130) (lv' := [(5, sI q15r), (4, sI q7r), (0, sR t), (1, sI a0), (2, sI a1), (3, sI a2)]) dX8_pick_130 (by decide) rfl ?_
              refine j_aload_n (pc := 132) 2 dX8_pick_132 rfl rfl ?_
              refine j_getR (pc := 133) (own := RX8) dX8_pick_133 lf_X8_31 rfl rfl (fun x16 => ?_)
              refine j_mkO (pc := 136) (own := RX8) dX8_pick_136 ln_X8_153 rfl rfl (fun q17r q17g => ?_)
              refine j_dup (pc := 139) dX8_pick_139 rfl ?_
              refine j_iload_n (pc := 140) 3 dX8_pick_140 rfl rfl ?_
              refine j_iload_n (pc := 141) 4 dX8_pick_141 rfl rfl ?_
              refine j_iload_n (pc := 142) 5 dX8_pick_142 rfl rfl ?_
              refine j_callI (pc := 143) (own := RX8) [sI a0, sI a1, sI a2] [sR q17r, sR x16] dX8_pick_143 lc_X8_164 li_X3_init rfl (m_X3_init z q17r a0 a1 a2 q17g) ⟨⟨Nat.le_of_ble_eq_true rfl, Nat.le_of_ble_eq_true rfl⟩, Nat.le_of_ble_eq_true rfl⟩ rfl rfl (fun q18r q18g => ?_)
              refine j_callV (pc := 146) (own := RX8) [sR q17r] [] dX8_pick_146 lc_X8_77 lv_Jx4a65c_add_9ea2d rfl (m_Jx4a65c_add_9ea2d z x16 q17r q18g) ⟨⟨Nat.le_of_ble_eq_true rfl, Nat.le_of_ble_eq_true rfl⟩, Nat.le_of_ble_eq_true rfl⟩ rfl rfl (fun q19r q19g => ?_)
              refine j_pop (pc := 149) dX8_pick_149 rfl ?_
              refine j_aload_n (pc := 150) 2 dX8_pick_150 rfl rfl ?_
              refine j_getR (pc := 151) (own := RX8) dX8_pick_151 lf_X8_28 rfl rfl (fun x20 => ?_)
              refine j_mkO (pc := 154) (own := RX8) dX8_pick_154 ln_X8_159 rfl rfl (fun q21r q21g => ?_)
              refine j_dup (pc := 157) dX8_pick_157 rfl ?_
              refine j_iload_n (pc := 158) 3 dX8_pick_158 rfl rfl ?_
              refine j_iload_n (pc := 159) 4 dX8_pick_159 rfl rfl ?_
              refine j_iload_n (pc := 160) 5 dX8_pick_160 rfl rfl ?_
              refine j_iconst (pc := 161) (v := 2) dX8_pick_161 (by decide) ?_
              refine j_iload (pc := 162) 0 dX8_pick_162 rfl ?_
              refine j_callI (pc := 164) (own := RX8) [sI a0, sI a1, sI a2, sI 2, sI q15r] [sR q21r, sR x20] dX8_pick_164 lc_X8_161 li_X2_init rfl (m_X2_init z q21r a0 a1 a2 2 q15r q21g) ⟨⟨Nat.le_of_ble_eq_true rfl, Nat.le_of_ble_eq_true rfl⟩, Nat.le_of_ble_eq_true rfl⟩ rfl rfl (fun q22r q22g => ?_)
              refine j_callV (pc := 167) (own := RX8) [sR q21r] [] dX8_pick_167 lc_X8_77 lv_Jx4a65c_add_9ea2d rfl (m_Jx4a65c_add_9ea2d z x20 q21r q22g) ⟨⟨Nat.le_of_ble_eq_true rfl, Nat.le_of_ble_eq_true rfl⟩, Nat.le_of_ble_eq_true rfl⟩ rfl rfl (fun q23r q23g => ?_)
              refine j_pop (pc := 170) dX8_pick_170 rfl ?_
              refine j_bipush (pc := 171) (v := 10) dX8_pick_171 (by decide) ?_
              refine j_iload (pc := 173) 0 dX8_pick_173 rfl ?_
              refine j_iadd (pc := 175) dX8_pick_175 ?_
              exact j_ireturn dX8_pick_176 hX rfl rfl
          · refine j_aload_n (pc := 64) 1 dX8_pick_64 rfl rfl ?_
            refine j_getR (pc := 65) (own := RX8) dX8_pick_65 lf_X8_31 rfl rfl (fun x24 => ?_)
            refine j_iload (pc := 68) 0 dX8_pick_68 rfl ?_
            refine j_callV (pc := 70) (own := RX8) [sI q7r] [] dX8_pick_70 lc_X8_87 lv_Jx4a65c_get_915e3 rfl (m_Jx4a65c_get_915e3 z x24 q7r q7g) ⟨⟨Nat.le_of_ble_eq_true rfl, Nat.le_of_ble_eq_true rfl⟩, Nat.le_of_ble_eq_true rfl⟩ rfl rfl (fun q25r q25g => ?_)
            refine b_cst (pc := 73) (own := RX8) (c := 4) dX8_pick_73 rfl (by decide) lq_X8_153 rfl ?_
            refine j_iload_n (pc := 76) 2 dX8_pick_76 rfl rfl ?_
            refine j_iload_n (pc := 77) 3 dX8_pick_77 rfl rfl ?_
            refine j_callV (pc := 78) (own := RX8) [sI a0, sI a1] [] dX8_pick_78 lc_X8_155 lv_X3_hear rfl (m_X3_hear z q25r a0 a1 q25g) ⟨⟨Nat.le_of_ble_eq_true rfl, Nat.le_of_ble_eq_true rfl⟩, Nat.le_of_ble_eq_true rfl⟩ rfl rfl (fun q27r q27g => ?_)
            refine j_aload_n (pc := 81) 1 dX8_pick_81 rfl rfl ?_
            refine j_getR (pc := 82) (own := RX8) dX8_pick_82 lf_X8_40 rfl rfl (fun x28 => ?_)
            refine j_callV (pc := 85) (own := RX8) [] [] dX8_pick_85 lc_X8_95 lv_X0_forget rfl (m_X0_forget z x28 q27g) ⟨⟨Nat.le_of_ble_eq_true rfl, Nat.le_of_ble_eq_true rfl⟩, Nat.le_of_ble_eq_true rfl⟩ rfl rfl (fun q29r q29g => ?_)
            refine j_aload_n (pc := 88) 1 dX8_pick_88 rfl rfl ?_
            refine j_getR (pc := 89) (own := RX8) dX8_pick_89 lf_X8_28 rfl rfl (fun x30 => ?_)
            refine j_mkO (pc := 92) (own := RX8) dX8_pick_92 ln_X8_159 rfl rfl (fun q31r q31g => ?_)
            refine j_dup (pc := 95) dX8_pick_95 rfl ?_
            refine j_iload_n (pc := 96) 2 dX8_pick_96 rfl rfl ?_
            refine j_iload_n (pc := 97) 3 dX8_pick_97 rfl rfl ?_
            refine j_iload_n (pc := 98) 4 dX8_pick_98 rfl rfl ?_
            refine j_iconst (pc := 99) (v := 1) dX8_pick_99 (by decide) ?_
            refine j_iload (pc := 100) 0 dX8_pick_100 rfl ?_
            refine j_callI (pc := 102) (own := RX8) [sI a0, sI a1, sI a2, sI 1, sI q7r] [sR q31r, sR x30] dX8_pick_102 lc_X8_161 li_X2_init rfl (m_X2_init z q31r a0 a1 a2 1 q7r q31g) ⟨⟨Nat.le_of_ble_eq_true rfl, Nat.le_of_ble_eq_true rfl⟩, Nat.le_of_ble_eq_true rfl⟩ rfl rfl (fun q32r q32g => ?_)
            refine j_callV (pc := 105) (own := RX8) [sR q31r] [] dX8_pick_105 lc_X8_77 lv_Jx4a65c_add_9ea2d rfl (m_Jx4a65c_add_9ea2d z x30 q31r q32g) ⟨⟨Nat.le_of_ble_eq_true rfl, Nat.le_of_ble_eq_true rfl⟩, Nat.le_of_ble_eq_true rfl⟩ rfl rfl (fun q33r q33g => ?_)
            refine j_pop (pc := 108) dX8_pick_108 rfl ?_
            refine j_iload (pc := 109) 0 dX8_pick_109 rfl ?_
            exact j_ireturn dX8_pick_111 hX rfl rfl
        · refine j_bipush (pc := 46) (v := (-2)) dX8_pick_46 (by decide) ?_
          exact j_ireturn dX8_pick_48 hX rfl rfl
      · refine j_iconst (pc := 32) (v := (-1)) dX8_pick_32 (by decide) ?_
        exact j_ireturn dX8_pick_33 hX rfl rfl
  · refine j_iconst (pc := 8) (v := (-1)) dX8_pick_8 (by decide) ?_
    exact j_ireturn dX8_pick_9 hX rfl rfl
/-! X8_isQuake -/
noncomputable def f_X8_isQuake (z : Nat) (t : Option Nm) (a0 : Int32) (g : Hp) : Option (Int32 × Hp) :=
  (getR t 9 4 g).bind fun x1 =>
  (ick x1 0 (f_Jx4a65c_size_8abf5 z x1 g)).bind fun q2 =>
  (f_X8_isWithin z a0 0 (q2.1 - 1) q2.2).bind fun q3 =>
  rtZ q3.1 q3.2
set_option maxRecDepth 20000 in
theorem m_X8_isQuake (z : Nat) (t : Option Nm) (a0 : Int32) (g : Hp) : FM yX8_isQuake cX8_isQuake 2 (some .boolean) 1 22 rtI [sR t, sI a0] g (f_X8_isQuake z t a0 g) := by
  refine FM.entry (by decide +kernel) (Nat.le_of_ble_eq_true rfl) (fun X hX => ?_)
  unfold f_X8_isQuake
  show J yX8_isQuake cX8_isQuake 2 (some .boolean) 1 22 X g 0 [(0, sR t), (1, sI a0)] [] _
  refine j_iload_n (pc := 0) 1 dX8_isQuake_0 rfl rfl ?_
  refine j_iconst (pc := 1) (v := 0) dX8_isQuake_1 (by decide) ?_
  refine j_aload_n (pc := 2) 0 dX8_isQuake_2 rfl rfl ?_
  refine j_getR (pc := 3) (own := RX8) dX8_isQuake_3 lf_X8_31 rfl rfl (fun x1 => ?_)
  refine j_callV (pc := 6) (own := RX8) [] [sI 0, sI a0] dX8_isQuake_6 lc_X8_70 lv_Jx4a65c_size_8abf5 rfl (m_Jx4a65c_size_8abf5 z x1 g) ⟨⟨Nat.le_of_ble_eq_true rfl, Nat.le_of_ble_eq_true rfl⟩, Nat.le_of_ble_eq_true rfl⟩ rfl rfl (fun q2r q2g => ?_)
  refine j_iconst (pc := 9) (v := 1) dX8_isQuake_9 (by decide) ?_
  refine j_isub (pc := 10) dX8_isQuake_10 ?_
  refine j_callS (pc := 11) (own := RX8) [sI a0, sI 0, sI (q2r - 1)] [] dX8_isQuake_11 lc_X8_55 ls_X8_isWithin rfl (m_X8_isWithin z a0 0 (q2r - 1) q2g) ⟨⟨Nat.le_of_ble_eq_true rfl, Nat.le_of_ble_eq_true rfl⟩, Nat.le_of_ble_eq_true rfl⟩ rfl rfl (fun q3r q3g => ?_)
  exact j_zreturn dX8_isQuake_14 hX rfl rfl
/-! X8_isOver -/
noncomputable def f_X8_isOver (z : Nat) (t : Option Nm) (a0 : Int32) (g : Hp) : Option (Int32 × Hp) :=
  (ick t 9 (f_X8_heapOf z t a0 g)).bind fun q1 =>
  (getI q1.1 1 2 q1.2).bind fun x2 =>
  if x2 = 0 then (rtZ 1 q1.2)
  else (rtZ 0 q1.2)
set_option maxRecDepth 20000 in
theorem m_X8_isOver (z : Nat) (t : Option Nm) (a0 : Int32) (g : Hp) : FM yX8_isOver cX8_isOver 2 (some .boolean) 5 112 rtI [sR t, sI a0] g (f_X8_isOver z t a0 g) := by
  refine FM.entry (by decide +kernel) (Nat.le_of_ble_eq_true rfl) (fun X hX => ?_)
  unfold f_X8_isOver
  show J yX8_isOver cX8_isOver 2 (some .boolean) 5 112 X g 0 [(0, sR t), (1, sI a0)] [] _
  refine j_aload_n (pc := 0) 0 dX8_isOver_0 rfl rfl ?_
  refine j_iload_n (pc := 1) 1 dX8_isOver_1 rfl rfl ?_
  refine j_callV (pc := 2) (own := RX8) [sI a0] [] dX8_isOver_2 lc_X8_194 lv_X8_heapOf rfl (m_X8_heapOf z t a0 g) ⟨⟨Nat.le_of_ble_eq_true rfl, Nat.le_of_ble_eq_true rfl⟩, Nat.le_of_ble_eq_true rfl⟩ rfl rfl (fun q1r q1g => ?_)
  refine j_getI (pc := 5) (own := RX8) dX8_isOver_5 lf_X8_198 rfl rfl (fun x2 => ?_)
  refine j_if_ne (pc := 8) (tgt := 15) dX8_isOver_8 (by decide) rfl (fun hc => ?_) (fun hc => ?_)
  · refine j_iconst (pc := 15) (v := 0) dX8_isOver_15 (by decide) ?_
    exact j_zreturn dX8_isOver_16 hX rfl rfl
  · refine j_iconst (pc := 11) (v := 1) dX8_isOver_11 (by decide) ?_
    refine j_goto (pc := 12) (tgt := 16) dX8_isOver_12 (by decide) ?_
    exact j_zreturn dX8_isOver_16 hX rfl rfl
/-! X8_quake -/
noncomputable def f_X8_quake (z : Nat) (t : Option Nm) (a0 : Int32) (a1 : Int32) (g : Hp) : Option (Int32 × Hp) :=
  (ick t 9 (f_X8_isQuake z t a0 g)).bind fun q1 =>
  if q1.1 = 0 then (some ((-1), q1.2))
  else (tsw a1 [0, 1, 2, 3, 4] [
      ((getR t 9 4 q1.2).bind fun x2 =>
        (ick x2 0 (f_Jx4a65c_get_915e3 z x2 a0 q1.2)).bind fun q3 =>
        (ckc q3.1 4).bind fun _ =>
        (getI q3.1 4 3 q3.2).bind fun x5 =>
        some (x5, q3.2)),
      ((ick t 9 (f_X8_heapOf z t a0 q1.2)).bind fun q6 =>
        (getI q6.1 1 2 q6.2).bind fun x7 =>
        some (x7, q6.2)),
      ((ick t 9 (f_X8_heapOf z t a0 q1.2)).bind fun q8 =>
        (getI q8.1 1 3 q8.2).bind fun x9 =>
        some (x9, q8.2)),
      ((ick t 9 (f_X8_heapOf z t a0 q1.2)).bind fun q10 =>
        (getI q10.1 1 4 q10.2).bind fun x11 =>
        some (x11, q10.2)),
      ((ick t 9 (f_X8_isOver z t a0 q1.2)).bind fun q12 =>
        if q12.1 = 0 then (some (0, q12.2))
        else (some (1, q12.2)))]
      (some ((-1), q1.2)))
set_option maxRecDepth 20000 in
theorem m_X8_quake (z : Nat) (t : Option Nm) (a0 : Int32) (a1 : Int32) (g : Hp) : FM yX8_quake cX8_quake 3 (some .int) 6 133 rtI [sR t, sI a0, sI a1] g (f_X8_quake z t a0 a1 g) := by
  refine FM.entry (by decide +kernel) (Nat.le_of_ble_eq_true rfl) (fun X hX => ?_)
  unfold f_X8_quake
  show J yX8_quake cX8_quake 3 (some .int) 6 133 X g 0 [(0, sR t), (1, sI a0), (2, sI a1)] [] _
  refine j_aload_n (pc := 0) 0 dX8_quake_0 rfl rfl ?_
  refine j_iload_n (pc := 1) 1 dX8_quake_1 rfl rfl ?_
  refine j_callV (pc := 2) (own := RX8) [sI a0] [] dX8_quake_2 lc_X8_188 lv_X8_isQuake rfl (m_X8_isQuake z t a0 g) ⟨⟨Nat.le_of_ble_eq_true rfl, Nat.le_of_ble_eq_true rfl⟩, Nat.le_of_ble_eq_true rfl⟩ rfl rfl (fun q1r q1g => ?_)
  refine j_if_ne (pc := 5) (tgt := 10) dX8_quake_5 (by decide) rfl (fun hc => ?_) (fun hc => ?_)
  · refine j_iload_n (pc := 10) 2 dX8_quake_10 rfl rfl ?_
    refine j_tsw (ts := [44, 59, 68, 77, 86]) (td := 100) dX8_quake_11 (by decide) (by decide) (by decide) (by decide) (by decide) rfl ?_ ⟨?_, ?_, ?_, ?_, ?_, trivial⟩
    · refine j_iconst (pc := 100) (v := (-1)) dX8_quake_100 (by decide) ?_
      exact j_ireturn dX8_quake_101 hX rfl rfl
    · refine j_aload_n (pc := 44) 0 dX8_quake_44 rfl rfl ?_
      refine j_getR (pc := 45) (own := RX8) dX8_quake_45 lf_X8_31 rfl rfl (fun x2 => ?_)
      refine j_iload_n (pc := 48) 1 dX8_quake_48 rfl rfl ?_
      refine j_callV (pc := 49) (own := RX8) [sI a0] [] dX8_quake_49 lc_X8_87 lv_Jx4a65c_get_915e3 rfl (m_Jx4a65c_get_915e3 z x2 a0 q1g) ⟨⟨Nat.le_of_ble_eq_true rfl, Nat.le_of_ble_eq_true rfl⟩, Nat.le_of_ble_eq_true rfl⟩ rfl rfl (fun q3r q3g => ?_)
      refine b_cst (pc := 52) (own := RX8) (c := 4) dX8_quake_52 rfl (by decide) lq_X8_153 rfl ?_
      refine j_getI (pc := 55) (own := RX8) dX8_quake_55 lf_X8_191 rfl rfl (fun x5 => ?_)
      exact j_ireturn dX8_quake_58 hX rfl rfl
    · refine j_aload_n (pc := 59) 0 dX8_quake_59 rfl rfl ?_
      refine j_iload_n (pc := 60) 1 dX8_quake_60 rfl rfl ?_
      refine j_callV (pc := 61) (own := RX8) [sI a0] [] dX8_quake_61 lc_X8_194 lv_X8_heapOf rfl (m_X8_heapOf z t a0 q1g) ⟨⟨Nat.le_of_ble_eq_true rfl, Nat.le_of_ble_eq_true rfl⟩, Nat.le_of_ble_eq_true rfl⟩ rfl rfl (fun q6r q6g => ?_)
      refine j_getI (pc := 64) (own := RX8) dX8_quake_64 lf_X8_198 rfl rfl (fun x7 => ?_)
      exact j_ireturn dX8_quake_67 hX rfl rfl
    · refine j_aload_n (pc := 68) 0 dX8_quake_68 rfl rfl ?_
      refine j_iload_n (pc := 69) 1 dX8_quake_69 rfl rfl ?_
      refine j_callV (pc := 70) (own := RX8) [sI a0] [] dX8_quake_70 lc_X8_194 lv_X8_heapOf rfl (m_X8_heapOf z t a0 q1g) ⟨⟨Nat.le_of_ble_eq_true rfl, Nat.le_of_ble_eq_true rfl⟩, Nat.le_of_ble_eq_true rfl⟩ rfl rfl (fun q8r q8g => ?_)
      refine j_getI (pc := 73) (own := RX8) dX8_quake_73 lf_X8_201 rfl rfl (fun x9 => ?_)
      exact j_ireturn dX8_quake_76 hX rfl rfl
    · refine j_aload_n (pc := 77) 0 dX8_quake_77 rfl rfl ?_
      refine j_iload_n (pc := 78) 1 dX8_quake_78 rfl rfl ?_
      refine j_callV (pc := 79) (own := RX8) [sI a0] [] dX8_quake_79 lc_X8_194 lv_X8_heapOf rfl (m_X8_heapOf z t a0 q1g) ⟨⟨Nat.le_of_ble_eq_true rfl, Nat.le_of_ble_eq_true rfl⟩, Nat.le_of_ble_eq_true rfl⟩ rfl rfl (fun q10r q10g => ?_)
      refine j_getI (pc := 82) (own := RX8) dX8_quake_82 lf_X8_204 rfl rfl (fun x11 => ?_)
      exact j_ireturn dX8_quake_85 hX rfl rfl
    · refine j_aload_n (pc := 86) 0 dX8_quake_86 rfl rfl ?_
      refine j_iload_n (pc := 87) 1 dX8_quake_87 rfl rfl ?_
      refine j_callV (pc := 88) (own := RX8) [sI a0] [] dX8_quake_88 lc_X8_207 lv_X8_isOver rfl (m_X8_isOver z t a0 q1g) ⟨⟨Nat.le_of_ble_eq_true rfl, Nat.le_of_ble_eq_true rfl⟩, Nat.le_of_ble_eq_true rfl⟩ rfl rfl (fun q12r q12g => ?_)
      refine j_if_eq (pc := 91) (tgt := 98) dX8_quake_91 (by decide) rfl (fun hc => ?_) (fun hc => ?_)
      · refine j_iconst (pc := 98) (v := 0) dX8_quake_98 (by decide) ?_
        exact j_ireturn dX8_quake_99 hX rfl rfl
      · refine j_iconst (pc := 94) (v := 1) dX8_quake_94 (by decide) ?_
        refine j_goto (pc := 95) (tgt := 99) dX8_quake_95 (by decide) ?_
        exact j_ireturn dX8_quake_99 hX rfl rfl
  · refine j_iconst (pc := 8) (v := (-1)) dX8_quake_8 (by decide) ?_
    exact j_ireturn dX8_quake_9 hX rfl rfl
/-! X8_holds -/
noncomputable def f_X8_holds (z : Nat) (t : Option Nm) (a0 : Int32) (a1 : Int32) (a2 : Int32) (g : Hp) : Option (Int32 × Hp) :=
  (ick t 9 (f_X8_isQuake z t a0 g)).bind fun q1 =>
  if q1.1 = 0 then (some ((-1), q1.2))
  else ((f_X8_isCell z a1 q1.2).bind fun q2 =>
    if q2.1 = 0 then (some ((-1), q2.2))
    else ((ick t 9 (f_X8_heapOf z t a0 q2.2)).bind fun q3 =>
      (getR q3.1 1 0 q3.2).bind fun x4 =>
      (aldI x4 a1 q3.2).bind fun x5 =>
      (getR q3.1 1 1 q3.2).bind fun x6 =>
      (aldI x6 a1 q3.2).bind fun x7 =>
      (f_X8_isWithin z a2 x5 x7 q3.2).bind fun q8 =>
      if q8.1 = 0 then (some (0, q8.2))
      else (some (1, q8.2))))
set_option maxRecDepth 20000 in
theorem m_X8_holds (z : Nat) (t : Option Nm) (a0 : Int32) (a1 : Int32) (a2 : Int32) (g : Hp) : FM yX8_holds cX8_holds 5 (some .int) 5 112 rtI [sR t, sI a0, sI a1, sI a2] g (f_X8_holds z t a0 a1 a2 g) := by
  refine FM.entry (by decide +kernel) (Nat.le_of_ble_eq_true rfl) (fun X hX => ?_)
  unfold f_X8_holds
  show J yX8_holds cX8_holds 5 (some .int) 5 112 X g 0 [(0, sR t), (1, sI a0), (2, sI a1), (3, sI a2)] [] _
  refine j_aload_n (pc := 0) 0 dX8_holds_0 rfl rfl ?_
  refine j_iload_n (pc := 1) 1 dX8_holds_1 rfl rfl ?_
  refine j_callV (pc := 2) (own := RX8) [sI a0] [] dX8_holds_2 lc_X8_188 lv_X8_isQuake rfl (m_X8_isQuake z t a0 g) ⟨⟨Nat.le_of_ble_eq_true rfl, Nat.le_of_ble_eq_true rfl⟩, Nat.le_of_ble_eq_true rfl⟩ rfl rfl (fun q1r q1g => ?_)
  refine j_if_eq (pc := 5) (tgt := 15) dX8_holds_5 (by decide) rfl (fun hc => ?_) (fun hc => ?_)
  · refine j_iconst (pc := 15) (v := (-1)) dX8_holds_15 (by decide) ?_
    exact j_ireturn dX8_holds_16 hX rfl rfl
  · refine j_iload_n (pc := 8) 2 dX8_holds_8 rfl rfl ?_
    refine j_callS (pc := 9) (own := RX8) [sI a1] [] dX8_holds_9 lc_X8_66 ls_X8_isCell rfl (m_X8_isCell z a1 q1g) ⟨⟨Nat.le_of_ble_eq_true rfl, Nat.le_of_ble_eq_true rfl⟩, Nat.le_of_ble_eq_true rfl⟩ rfl rfl (fun q2r q2g => ?_)
    refine j_if_ne (pc := 12) (tgt := 17) dX8_holds_12 (by decide) rfl (fun hc => ?_) (fun hc => ?_)
    · refine j_aload_n (pc := 17) 0 dX8_holds_17 rfl rfl ?_
      refine j_iload_n (pc := 18) 1 dX8_holds_18 rfl rfl ?_
      refine j_callV (pc := 19) (own := RX8) [sI a0] [] dX8_holds_19 lc_X8_194 lv_X8_heapOf rfl (m_X8_heapOf z t a0 q2g) ⟨⟨Nat.le_of_ble_eq_true rfl, Nat.le_of_ble_eq_true rfl⟩, Nat.le_of_ble_eq_true rfl⟩ rfl rfl (fun q3r q3g => ?_)
      refine j_astore (pc := 22) (lv' := [(4, sR q3r), (0, sR t), (1, sI a0), (2, sI a1), (3, sI a2)]) dX8_holds_22 (by decide) rfl ?_
      refine j_iload_n (pc := 24) 4 dX8_holds_24 rfl rfl ?_
      refine j_aload (pc := 25) 0 dX8_holds_25 rfl ?_
      refine j_getR (pc := 27) (own := RX8) dX8_holds_27 lf_X8_218 rfl rfl (fun x4 => ?_)
      refine j_iload_n (pc := 30) 3 dX8_holds_30 rfl rfl ?_
      refine j_aldI (pc := 31) dX8_holds_31 rfl (fun x5 => ?_)
      refine j_aload (pc := 32) 0 dX8_holds_32 rfl ?_
      refine j_getR (pc := 34) (own := RX8) dX8_holds_34 lf_X8_215 rfl rfl (fun x6 => ?_)
      refine j_iload_n (pc := 37) 3 dX8_holds_37 rfl rfl ?_
      refine j_aldI (pc := 38) dX8_holds_38 rfl (fun x7 => ?_)
      refine j_callS (pc := 39) (own := RX8) [sI a2, sI x5, sI x7] [] dX8_holds_39 lc_X8_55 ls_X8_isWithin rfl (m_X8_isWithin z a2 x5 x7 q3g) ⟨⟨Nat.le_of_ble_eq_true rfl, Nat.le_of_ble_eq_true rfl⟩, Nat.le_of_ble_eq_true rfl⟩ rfl rfl (fun q8r q8g => ?_)
      refine j_if_eq (pc := 42) (tgt := 49) dX8_holds_42 (by decide) rfl (fun hc => ?_) (fun hc => ?_)
      · refine j_iconst (pc := 49) (v := 0) dX8_holds_49 (by decide) ?_
        exact j_ireturn dX8_holds_50 hX rfl rfl
      · refine j_iconst (pc := 45) (v := 1) dX8_holds_45 (by decide) ?_
        refine j_goto (pc := 46) (tgt := 50) dX8_holds_46 (by decide) ?_
        exact j_ireturn dX8_holds_50 hX rfl rfl
    · refine j_iconst (pc := 15) (v := (-1)) dX8_holds_15 (by decide) ?_
      exact j_ireturn dX8_holds_16 hX rfl rfl
/-! X8_isTown -/
noncomputable def f_X8_isTown (z : Nat) (t : Option Nm) (a0 : Int32) (g : Hp) : Option (Int32 × Hp) :=
  (getR t 9 2 g).bind fun x1 =>
  (ick x1 0 (f_Jx4a65c_size_8abf5 z x1 g)).bind fun q2 =>
  (f_X8_isWithin z a0 0 (q2.1 - 1) q2.2).bind fun q3 =>
  rtZ q3.1 q3.2
set_option maxRecDepth 20000 in
theorem m_X8_isTown (z : Nat) (t : Option Nm) (a0 : Int32) (g : Hp) : FM yX8_isTown cX8_isTown 2 (some .boolean) 1 22 rtI [sR t, sI a0] g (f_X8_isTown z t a0 g) := by
  refine FM.entry (by decide +kernel) (Nat.le_of_ble_eq_true rfl) (fun X hX => ?_)
  unfold f_X8_isTown
  show J yX8_isTown cX8_isTown 2 (some .boolean) 1 22 X g 0 [(0, sR t), (1, sI a0)] [] _
  refine j_iload_n (pc := 0) 1 dX8_isTown_0 rfl rfl ?_
  refine j_iconst (pc := 1) (v := 0) dX8_isTown_1 (by decide) ?_
  refine j_aload_n (pc := 2) 0 dX8_isTown_2 rfl rfl ?_
  refine j_getR (pc := 3) (own := RX8) dX8_isTown_3 lf_X8_25 rfl rfl (fun x1 => ?_)
  refine j_callV (pc := 6) (own := RX8) [] [sI 0, sI a0] dX8_isTown_6 lc_X8_70 lv_Jx4a65c_size_8abf5 rfl (m_Jx4a65c_size_8abf5 z x1 g) ⟨⟨Nat.le_of_ble_eq_true rfl, Nat.le_of_ble_eq_true rfl⟩, Nat.le_of_ble_eq_true rfl⟩ rfl rfl (fun q2r q2g => ?_)
  refine j_iconst (pc := 9) (v := 1) dX8_isTown_9 (by decide) ?_
  refine j_isub (pc := 10) dX8_isTown_10 ?_
  refine j_callS (pc := 11) (own := RX8) [sI a0, sI 0, sI (q2r - 1)] [] dX8_isTown_11 lc_X8_55 ls_X8_isWithin rfl (m_X8_isWithin z a0 0 (q2r - 1) q2g) ⟨⟨Nat.le_of_ble_eq_true rfl, Nat.le_of_ble_eq_true rfl⟩, Nat.le_of_ble_eq_true rfl⟩ rfl rfl (fun q3r q3g => ?_)
  exact j_zreturn dX8_isTown_14 hX rfl rfl
/-! X8_latestArrival -/
noncomputable def f_X8_latestArrival_30_b (z : Nat) (p4 : Int32) (p3 : Option Nm) (p0 : Option Nm) (p1 : Int32) (p2 : Int32) (rec : Int32 → Int32 → Hp → Option (Int32 × Int32 × Hp)) (v6 : Int32) (v5 : Int32) (g : Hp) : Option (Int32 × Int32 × Hp) :=
  if 144 ≤ v6 then (some (v6, v5, g))
  else ((ick p3 1 (f_X0_has z p3 v6 g)).bind fun q6 =>
    if q6.1 = 0 then (rec (v6 + 1) v5 q6.2)
    else ((getR p3 1 1 q6.2).bind fun x7 =>
      (aldI x7 v6 q6.2).bind fun x8 =>
      (getR p0 9 0 q6.2).bind fun x9 =>
      (ick x9 8 (f_X7_between z x9 v6 p4 q6.2)).bind fun q10 =>
      rec (v6 + 1) (imax v5 (x8 + q10.1)) q10.2))
noncomputable def f_X8_latestArrival_30_L (z : Nat) (p4 : Int32) (p3 : Option Nm) (p0 : Option Nm) (p1 : Int32) (p2 : Int32) : Nat → Int32 → Int32 → Hp → Option (Int32 × Int32 × Hp)
  | 0, _, _, _ => none
  | n + 1, v6, v5, g => f_X8_latestArrival_30_b z p4 p3 p0 p1 p2 (f_X8_latestArrival_30_L z p4 p3 p0 p1 p2 n) v6 v5 g
noncomputable def f_X8_latestArrival (z : Nat) (t : Option Nm) (a0 : Int32) (a1 : Int32) (g : Hp) : Option (Int32 × Hp) :=
  (ick t 9 (f_X8_heapOf z t a1 g)).bind fun q1 =>
  (getR t 9 2 q1.2).bind fun x2 =>
  (ick x2 0 (f_Jx4a65c_get_915e3 z x2 a0 q1.2)).bind fun q3 =>
  (ckc q3.1 7).bind fun _ =>
  (getI q3.1 7 0 q3.2).bind fun x5 =>
  (f_X8_latestArrival_30_L z x5 q1.1 t a0 a1 z 0 (-1000000) q3.2).bind fun q11 =>
  some (q11.2.1, q11.2.2)
set_option maxRecDepth 20000 in
theorem b_X8_latestArrival_30 {X : Xt Int32} (hX : IsM rtI X) (z : Nat) (p4 : Int32) (p3 : Option Nm) (p0 : Option Nm) (p1 : Int32) (p2 : Int32) (rec : Int32 → Int32 → Hp → Option (Int32 × Int32 × Hp)) (K : Int32 × Int32 × Hp → Option (Int32 × Hp)) (he : ∀ (v6 : Int32) (v5 : Int32) (g : Hp), J yX8_latestArrival cX8_latestArrival 7 (some .int) 5 112 X g 82 [(6, sI v6), (5, sI v5), (4, sI p4), (3, sR p3), (0, sR p0), (1, sI p1), (2, sI p2)] [] (K (v6, v5, g))) (hr : ∀ (v6 : Int32) (v5 : Int32) (g : Hp), J yX8_latestArrival cX8_latestArrival 7 (some .int) 5 112 X g 30 [(6, sI v6), (5, sI v5), (4, sI p4), (3, sR p3), (0, sR p0), (1, sI p1), (2, sI p2)] [] ((rec v6 v5 g).bind K)) (v6 : Int32) (v5 : Int32) (g : Hp) : J yX8_latestArrival cX8_latestArrival 7 (some .int) 5 112 X g 30 [(6, sI v6), (5, sI v5), (4, sI p4), (3, sR p3), (0, sR p0), (1, sI p1), (2, sI p2)] [] ((f_X8_latestArrival_30_b z p4 p3 p0 p1 p2 rec v6 v5 g).bind K) := by
  unfold f_X8_latestArrival_30_b
  refine j_iload (pc := 30) 0 dX8_latestArrival_30 rfl ?_
  refine j_sipush (pc := 32) (v := 144) dX8_latestArrival_32 (by decide) ?_
  refine j_icmp_ge (pc := 35) (tgt := 82) dX8_latestArrival_35 (by decide) bi (fun hc => ?_) (fun hc => ?_)
  · exact he v6 v5 g
  · refine j_aload_n (pc := 38) 3 dX8_latestArrival_38 rfl rfl ?_
    refine j_iload (pc := 39) 0 dX8_latestArrival_39 rfl ?_
    refine j_callV (pc := 41) (own := RX8) [sI v6] [] dX8_latestArrival_41 lc_X8_213 lv_X0_has rfl (m_X0_has z p3 v6 g) ⟨⟨Nat.le_of_ble_eq_true rfl, Nat.le_of_ble_eq_true rfl⟩, Nat.le_of_ble_eq_true rfl⟩ rfl bb (fun q6r q6g => ?_)
    refine j_if_ne (pc := 44) (tgt := 50) dX8_latestArrival_44 (by decide) bi (fun hc => ?_) (fun hc => ?_)
    · refine j_iload (pc := 50) 1 dX8_latestArrival_50 rfl ?_
      refine j_aload_n (pc := 52) 3 dX8_latestArrival_52 rfl rfl ?_
      refine j_getR (pc := 53) (own := RX8) dX8_latestArrival_53 lf_X8_215 rfl bb (fun x7 => ?_)
      refine j_iload (pc := 56) 0 dX8_latestArrival_56 rfl ?_
      refine j_aldI (pc := 58) dX8_latestArrival_58 bb (fun x8 => ?_)
      refine j_aload_n (pc := 59) 4 dX8_latestArrival_59 rfl rfl ?_
      refine j_getR (pc := 60) (own := RX8) dX8_latestArrival_60 lf_X8_14 rfl bb (fun x9 => ?_)
      refine j_iload (pc := 63) 0 dX8_latestArrival_63 rfl ?_
      refine j_iload (pc := 65) 2 dX8_latestArrival_65 rfl ?_
      refine j_callV (pc := 67) (own := RX8) [sI v6, sI p4] [sI x8, sI v5] dX8_latestArrival_67 lc_X8_98 lv_X7_between rfl (m_X7_between z x9 v6 p4 q6g) ⟨⟨Nat.le_of_ble_eq_true rfl, Nat.le_of_ble_eq_true rfl⟩, Nat.le_of_ble_eq_true rfl⟩ rfl bb (fun q10r q10g => ?_)
      refine j_iadd (pc := 70) dX8_latestArrival_70 ?_
      refine j_max (pc := 71) (own := RX8) dX8_latestArrival_71 lM_X8_261 rfl ⟨Nat.le_of_ble_eq_true rfl, Nat.le_of_ble_eq_true rfl⟩ ?_
      refine j_istore (pc := 74) (lv' := [(5, sI (imax v5 (x8 + q10r))), (6, sI v6), (4, sI p4), (3, sR p3), (0, sR p0), (1, sI p1), (2, sI p2)]) dX8_latestArrival_74 (by decide) rfl ?_
      refine j_iinc (pc := 76) (v := (v6 + 1)) (lv' := [(6, sI (v6 + 1)), (5, sI (imax v5 (x8 + q10r))), (4, sI p4), (3, sR p3), (0, sR p0), (1, sI p1), (2, sI p2)]) 1 dX8_latestArrival_76 rfl rfl (by decide) rfl ?_
      refine j_goto (pc := 79) (tgt := 30) dX8_latestArrival_79 (by decide) ?_
      exact hr (v6 + 1) (imax v5 (x8 + q10r)) q10g
    · refine j_goto (pc := 47) (tgt := 76) dX8_latestArrival_47 (by decide) ?_
      refine j_iinc (pc := 76) (v := (v6 + 1)) (lv' := [(6, sI (v6 + 1)), (5, sI v5), (4, sI p4), (3, sR p3), (0, sR p0), (1, sI p1), (2, sI p2)]) 0 dX8_latestArrival_76 rfl rfl (by decide) rfl ?_
      refine j_goto (pc := 79) (tgt := 30) dX8_latestArrival_79 (by decide) ?_
      exact hr (v6 + 1) v5 q6g
set_option maxRecDepth 20000 in
theorem l_X8_latestArrival_30 {X : Xt Int32} (hX : IsM rtI X) (z : Nat) (p4 : Int32) (p3 : Option Nm) (p0 : Option Nm) (p1 : Int32) (p2 : Int32) (K : Int32 × Int32 × Hp → Option (Int32 × Hp)) (he : ∀ (v6 : Int32) (v5 : Int32) (g : Hp), J yX8_latestArrival cX8_latestArrival 7 (some .int) 5 112 X g 82 [(6, sI v6), (5, sI v5), (4, sI p4), (3, sR p3), (0, sR p0), (1, sI p1), (2, sI p2)] [] (K (v6, v5, g))) : ∀ (n : Nat) (v6 : Int32) (v5 : Int32) (g : Hp), J yX8_latestArrival cX8_latestArrival 7 (some .int) 5 112 X g 30 [(6, sI v6), (5, sI v5), (4, sI p4), (3, sR p3), (0, sR p0), (1, sI p1), (2, sI p2)] [] ((f_X8_latestArrival_30_L z p4 p3 p0 p1 p2 n v6 v5 g).bind K)
  | 0, _, _, _ => J.eq rfl J.none
  | n + 1, v6, v5, g => b_X8_latestArrival_30 hX z p4 p3 p0 p1 p2 _ K he (fun v6 v5 g => l_X8_latestArrival_30 hX z p4 p3 p0 p1 p2 K he n v6 v5 g) v6 v5 g
set_option maxRecDepth 20000 in
theorem m_X8_latestArrival (z : Nat) (t : Option Nm) (a0 : Int32) (a1 : Int32) (g : Hp) : FM yX8_latestArrival cX8_latestArrival 7 (some .int) 5 112 rtI [sR t, sI a0, sI a1] g (f_X8_latestArrival z t a0 a1 g) := by
  refine FM.entry (by decide +kernel) (Nat.le_of_ble_eq_true rfl) (fun X hX => ?_)
  unfold f_X8_latestArrival
  show J yX8_latestArrival cX8_latestArrival 7 (some .int) 5 112 X g 0 [(0, sR t), (1, sI a0), (2, sI a1)] [] _
  refine j_aload_n (pc := 0) 0 dX8_latestArrival_0 rfl rfl ?_
  refine j_iload_n (pc := 1) 2 dX8_latestArrival_1 rfl rfl ?_
  refine j_callV (pc := 2) (own := RX8) [sI a1] [] dX8_latestArrival_2 lc_X8_194 lv_X8_heapOf rfl (m_X8_heapOf z t a1 g) ⟨⟨Nat.le_of_ble_eq_true rfl, Nat.le_of_ble_eq_true rfl⟩, Nat.le_of_ble_eq_true rfl⟩ rfl rfl (fun q1r q1g => ?_)
  refine j_astore_n (pc := 5) (lv' := [(3, sR q1r), (0, sR t), (1, sI a0), (2, sI a1)]) dX8_latestArrival_5 rfl (by decide) rfl ?_
  refine j_aload_n (pc := 6) 1 dX8_latestArrival_6 rfl rfl ?_
  refine j_getR (pc := 7) (own := RX8) dX8_latestArrival_7 lf_X8_25 rfl rfl (fun x2 => ?_)
  refine j_iload_n (pc := 10) 2 dX8_latestArrival_10 rfl rfl ?_
  refine j_callV (pc := 11) (own := RX8) [sI a0] [] dX8_latestArrival_11 lc_X8_87 lv_Jx4a65c_get_915e3 rfl (m_Jx4a65c_get_915e3 z x2 a0 q1g) ⟨⟨Nat.le_of_ble_eq_true rfl, Nat.le_of_ble_eq_true rfl⟩, Nat.le_of_ble_eq_true rfl⟩ rfl rfl (fun q3r q3g => ?_)
  refine b_cst (pc := 14) (own := RX8) (c := 7) dX8_latestArrival_14 rfl (by decide) lq_X8_81 rfl ?_
  refine j_getI (pc := 17) (own := RX8) dX8_latestArrival_17 lf_X8_335 rfl rfl (fun x5 => ?_)
  refine j_istore (pc := 20) (lv' := [(4, sI x5), (3, sR q1r), (0, sR t), (1, sI a0), (2, sI a1)]) dX8_latestArrival_20 (by decide) rfl ?_
  refine j_ldcw (pc := 22) (own := RX8) (v := (-1000000)) dX8_latestArrival_22 rfl lk_X8_342 ?_
  refine j_istore (pc := 25) (lv' := [(5, sI (-1000000)), (4, sI x5), (3, sR q1r), (0, sR t), (1, sI a0), (2, sI a1)]) dX8_latestArrival_25 (by decide) rfl ?_
  refine j_iconst (pc := 27) (v := 0) dX8_latestArrival_27 (by decide) ?_
  refine j_istore (pc := 28) (lv' := [(6, sI 0), (5, sI (-1000000)), (4, sI x5), (3, sR q1r), (0, sR t), (1, sI a0), (2, sI a1)]) dX8_latestArrival_28 (by decide) rfl ?_
  refine l_X8_latestArrival_30 hX z x5 q1r t a0 a1 _ (fun q11_0 q11_1 q11_g => ?_) z 0 (-1000000) q3g
  refine j_iload (pc := 82) 1 dX8_latestArrival_82 rfl ?_
  exact j_ireturn dX8_latestArrival_84 hX rfl rfl
/-! X8_earliestArrival -/
noncomputable def f_X8_earliestArrival_29_b (z : Nat) (p4 : Int32) (p3 : Option Nm) (p0 : Option Nm) (p1 : Int32) (p2 : Int32) (rec : Int32 → Int32 → Hp → Option (Int32 × Int32 × Hp)) (v6 : Int32) (v5 : Int32) (g : Hp) : Option (Int32 × Int32 × Hp) :=
  if 144 ≤ v6 then (some (v6, v5, g))
  else ((ick p3 1 (f_X0_has z p3 v6 g)).bind fun q6 =>
    if q6.1 = 0 then (rec (v6 + 1) v5 q6.2)
    else ((getR p3 1 0 q6.2).bind fun x7 =>
      (aldI x7 v6 q6.2).bind fun x8 =>
      (getR p0 9 0 q6.2).bind fun x9 =>
      (ick x9 8 (f_X7_between z x9 v6 p4 q6.2)).bind fun q10 =>
      rec (v6 + 1) (imin v5 (x8 + q10.1)) q10.2))
noncomputable def f_X8_earliestArrival_29_L (z : Nat) (p4 : Int32) (p3 : Option Nm) (p0 : Option Nm) (p1 : Int32) (p2 : Int32) : Nat → Int32 → Int32 → Hp → Option (Int32 × Int32 × Hp)
  | 0, _, _, _ => none
  | n + 1, v6, v5, g => f_X8_earliestArrival_29_b z p4 p3 p0 p1 p2 (f_X8_earliestArrival_29_L z p4 p3 p0 p1 p2 n) v6 v5 g
noncomputable def f_X8_earliestArrival (z : Nat) (t : Option Nm) (a0 : Int32) (a1 : Int32) (g : Hp) : Option (Int32 × Hp) :=
  (ick t 9 (f_X8_heapOf z t a1 g)).bind fun q1 =>
  (getR t 9 2 q1.2).bind fun x2 =>
  (ick x2 0 (f_Jx4a65c_get_915e3 z x2 a0 q1.2)).bind fun q3 =>
  (ckc q3.1 7).bind fun _ =>
  (getI q3.1 7 0 q3.2).bind fun x5 =>
  (f_X8_earliestArrival_29_L z x5 q1.1 t a0 a1 z 0 1000000 q3.2).bind fun q11 =>
  some (q11.2.1, q11.2.2)
set_option maxRecDepth 20000 in
theorem b_X8_earliestArrival_29 {X : Xt Int32} (hX : IsM rtI X) (z : Nat) (p4 : Int32) (p3 : Option Nm) (p0 : Option Nm) (p1 : Int32) (p2 : Int32) (rec : Int32 → Int32 → Hp → Option (Int32 × Int32 × Hp)) (K : Int32 × Int32 × Hp → Option (Int32 × Hp)) (he : ∀ (v6 : Int32) (v5 : Int32) (g : Hp), J yX8_earliestArrival cX8_earliestArrival 7 (some .int) 5 112 X g 81 [(6, sI v6), (5, sI v5), (4, sI p4), (3, sR p3), (0, sR p0), (1, sI p1), (2, sI p2)] [] (K (v6, v5, g))) (hr : ∀ (v6 : Int32) (v5 : Int32) (g : Hp), J yX8_earliestArrival cX8_earliestArrival 7 (some .int) 5 112 X g 29 [(6, sI v6), (5, sI v5), (4, sI p4), (3, sR p3), (0, sR p0), (1, sI p1), (2, sI p2)] [] ((rec v6 v5 g).bind K)) (v6 : Int32) (v5 : Int32) (g : Hp) : J yX8_earliestArrival cX8_earliestArrival 7 (some .int) 5 112 X g 29 [(6, sI v6), (5, sI v5), (4, sI p4), (3, sR p3), (0, sR p0), (1, sI p1), (2, sI p2)] [] ((f_X8_earliestArrival_29_b z p4 p3 p0 p1 p2 rec v6 v5 g).bind K) := by
  unfold f_X8_earliestArrival_29_b
  refine j_iload (pc := 29) 0 dX8_earliestArrival_29 rfl ?_
  refine j_sipush (pc := 31) (v := 144) dX8_earliestArrival_31 (by decide) ?_
  refine j_icmp_ge (pc := 34) (tgt := 81) dX8_earliestArrival_34 (by decide) bi (fun hc => ?_) (fun hc => ?_)
  · exact he v6 v5 g
  · refine j_aload_n (pc := 37) 3 dX8_earliestArrival_37 rfl rfl ?_
    refine j_iload (pc := 38) 0 dX8_earliestArrival_38 rfl ?_
    refine j_callV (pc := 40) (own := RX8) [sI v6] [] dX8_earliestArrival_40 lc_X8_213 lv_X0_has rfl (m_X0_has z p3 v6 g) ⟨⟨Nat.le_of_ble_eq_true rfl, Nat.le_of_ble_eq_true rfl⟩, Nat.le_of_ble_eq_true rfl⟩ rfl bb (fun q6r q6g => ?_)
    refine j_if_ne (pc := 43) (tgt := 49) dX8_earliestArrival_43 (by decide) bi (fun hc => ?_) (fun hc => ?_)
    · refine j_iload (pc := 49) 1 dX8_earliestArrival_49 rfl ?_
      refine j_aload_n (pc := 51) 3 dX8_earliestArrival_51 rfl rfl ?_
      refine j_getR (pc := 52) (own := RX8) dX8_earliestArrival_52 lf_X8_218 rfl bb (fun x7 => ?_)
      refine j_iload (pc := 55) 0 dX8_earliestArrival_55 rfl ?_
      refine j_aldI (pc := 57) dX8_earliestArrival_57 bb (fun x8 => ?_)
      refine j_aload_n (pc := 58) 4 dX8_earliestArrival_58 rfl rfl ?_
      refine j_getR (pc := 59) (own := RX8) dX8_earliestArrival_59 lf_X8_14 rfl bb (fun x9 => ?_)
      refine j_iload (pc := 62) 0 dX8_earliestArrival_62 rfl ?_
      refine j_iload (pc := 64) 2 dX8_earliestArrival_64 rfl ?_
      refine j_callV (pc := 66) (own := RX8) [sI v6, sI p4] [sI x8, sI v5] dX8_earliestArrival_66 lc_X8_98 lv_X7_between rfl (m_X7_between z x9 v6 p4 q6g) ⟨⟨Nat.le_of_ble_eq_true rfl, Nat.le_of_ble_eq_true rfl⟩, Nat.le_of_ble_eq_true rfl⟩ rfl bb (fun q10r q10g => ?_)
      refine j_iadd (pc := 69) dX8_earliestArrival_69 ?_
      refine j_min (pc := 70) (own := RX8) dX8_earliestArrival_70 lM_X8_339 rfl ⟨Nat.le_of_ble_eq_true rfl, Nat.le_of_ble_eq_true rfl⟩ ?_
      refine j_istore (pc := 73) (lv' := [(5, sI (imin v5 (x8 + q10r))), (6, sI v6), (4, sI p4), (3, sR p3), (0, sR p0), (1, sI p1), (2, sI p2)]) dX8_earliestArrival_73 (by decide) rfl ?_
      refine j_iinc (pc := 75) (v := (v6 + 1)) (lv' := [(6, sI (v6 + 1)), (5, sI (imin v5 (x8 + q10r))), (4, sI p4), (3, sR p3), (0, sR p0), (1, sI p1), (2, sI p2)]) 1 dX8_earliestArrival_75 rfl rfl (by decide) rfl ?_
      refine j_goto (pc := 78) (tgt := 29) dX8_earliestArrival_78 (by decide) ?_
      exact hr (v6 + 1) (imin v5 (x8 + q10r)) q10g
    · refine j_goto (pc := 46) (tgt := 75) dX8_earliestArrival_46 (by decide) ?_
      refine j_iinc (pc := 75) (v := (v6 + 1)) (lv' := [(6, sI (v6 + 1)), (5, sI v5), (4, sI p4), (3, sR p3), (0, sR p0), (1, sI p1), (2, sI p2)]) 0 dX8_earliestArrival_75 rfl rfl (by decide) rfl ?_
      refine j_goto (pc := 78) (tgt := 29) dX8_earliestArrival_78 (by decide) ?_
      exact hr (v6 + 1) v5 q6g
set_option maxRecDepth 20000 in
theorem l_X8_earliestArrival_29 {X : Xt Int32} (hX : IsM rtI X) (z : Nat) (p4 : Int32) (p3 : Option Nm) (p0 : Option Nm) (p1 : Int32) (p2 : Int32) (K : Int32 × Int32 × Hp → Option (Int32 × Hp)) (he : ∀ (v6 : Int32) (v5 : Int32) (g : Hp), J yX8_earliestArrival cX8_earliestArrival 7 (some .int) 5 112 X g 81 [(6, sI v6), (5, sI v5), (4, sI p4), (3, sR p3), (0, sR p0), (1, sI p1), (2, sI p2)] [] (K (v6, v5, g))) : ∀ (n : Nat) (v6 : Int32) (v5 : Int32) (g : Hp), J yX8_earliestArrival cX8_earliestArrival 7 (some .int) 5 112 X g 29 [(6, sI v6), (5, sI v5), (4, sI p4), (3, sR p3), (0, sR p0), (1, sI p1), (2, sI p2)] [] ((f_X8_earliestArrival_29_L z p4 p3 p0 p1 p2 n v6 v5 g).bind K)
  | 0, _, _, _ => J.eq rfl J.none
  | n + 1, v6, v5, g => b_X8_earliestArrival_29 hX z p4 p3 p0 p1 p2 _ K he (fun v6 v5 g => l_X8_earliestArrival_29 hX z p4 p3 p0 p1 p2 K he n v6 v5 g) v6 v5 g
set_option maxRecDepth 20000 in
theorem m_X8_earliestArrival (z : Nat) (t : Option Nm) (a0 : Int32) (a1 : Int32) (g : Hp) : FM yX8_earliestArrival cX8_earliestArrival 7 (some .int) 5 112 rtI [sR t, sI a0, sI a1] g (f_X8_earliestArrival z t a0 a1 g) := by
  refine FM.entry (by decide +kernel) (Nat.le_of_ble_eq_true rfl) (fun X hX => ?_)
  unfold f_X8_earliestArrival
  show J yX8_earliestArrival cX8_earliestArrival 7 (some .int) 5 112 X g 0 [(0, sR t), (1, sI a0), (2, sI a1)] [] _
  refine j_aload_n (pc := 0) 0 dX8_earliestArrival_0 rfl rfl ?_
  refine j_iload_n (pc := 1) 2 dX8_earliestArrival_1 rfl rfl ?_
  refine j_callV (pc := 2) (own := RX8) [sI a1] [] dX8_earliestArrival_2 lc_X8_194 lv_X8_heapOf rfl (m_X8_heapOf z t a1 g) ⟨⟨Nat.le_of_ble_eq_true rfl, Nat.le_of_ble_eq_true rfl⟩, Nat.le_of_ble_eq_true rfl⟩ rfl rfl (fun q1r q1g => ?_)
  refine j_astore_n (pc := 5) (lv' := [(3, sR q1r), (0, sR t), (1, sI a0), (2, sI a1)]) dX8_earliestArrival_5 rfl (by decide) rfl ?_
  refine j_aload_n (pc := 6) 1 dX8_earliestArrival_6 rfl rfl ?_
  refine j_getR (pc := 7) (own := RX8) dX8_earliestArrival_7 lf_X8_25 rfl rfl (fun x2 => ?_)
  refine j_iload_n (pc := 10) 2 dX8_earliestArrival_10 rfl rfl ?_
  refine j_callV (pc := 11) (own := RX8) [sI a0] [] dX8_earliestArrival_11 lc_X8_87 lv_Jx4a65c_get_915e3 rfl (m_Jx4a65c_get_915e3 z x2 a0 q1g) ⟨⟨Nat.le_of_ble_eq_true rfl, Nat.le_of_ble_eq_true rfl⟩, Nat.le_of_ble_eq_true rfl⟩ rfl rfl (fun q3r q3g => ?_)
  refine b_cst (pc := 14) (own := RX8) (c := 7) dX8_earliestArrival_14 rfl (by decide) lq_X8_81 rfl ?_
  refine j_getI (pc := 17) (own := RX8) dX8_earliestArrival_17 lf_X8_335 rfl rfl (fun x5 => ?_)
  refine j_istore (pc := 20) (lv' := [(4, sI x5), (3, sR q1r), (0, sR t), (1, sI a0), (2, sI a1)]) dX8_earliestArrival_20 (by decide) rfl ?_
  refine j_ldc (pc := 22) (own := RX8) (v := 1000000) dX8_earliestArrival_22 rfl lk_X8_149 ?_
  refine j_istore (pc := 24) (lv' := [(5, sI 1000000), (4, sI x5), (3, sR q1r), (0, sR t), (1, sI a0), (2, sI a1)]) dX8_earliestArrival_24 (by decide) rfl ?_
  refine j_iconst (pc := 26) (v := 0) dX8_earliestArrival_26 (by decide) ?_
  refine j_istore (pc := 27) (lv' := [(6, sI 0), (5, sI 1000000), (4, sI x5), (3, sR q1r), (0, sR t), (1, sI a0), (2, sI a1)]) dX8_earliestArrival_27 (by decide) rfl ?_
  refine l_X8_earliestArrival_29 hX z x5 q1r t a0 a1 _ (fun q11_0 q11_1 q11_g => ?_) z 0 1000000 q3g
  refine j_iload (pc := 81) 1 dX8_earliestArrival_81 rfl ?_
  exact j_ireturn dX8_earliestArrival_83 hX rfl rfl
/-! X8_late -/
noncomputable def f_X8_late (z : Nat) (t : Option Nm) (a0 : Int32) (a1 : Int32) (g : Hp) : Option (Int32 × Hp) :=
  (ick t 9 (f_X8_isTown z t a0 g)).bind fun q1 =>
  if q1.1 = 0 then (some ((-1), q1.2))
  else ((ick t 9 (f_X8_isQuake z t a1 q1.2)).bind fun q2 =>
    if q2.1 = 0 then (some ((-1), q2.2))
    else ((ick t 9 (f_X8_isOver z t a1 q2.2)).bind fun q3 =>
      if q3.1 = 0 then ((ick t 9 (f_X8_latestArrival z t a0 a1 q3.2)).bind fun q4 =>
        (getI t 9 10 q4.2).bind fun x5 =>
        if x5 < q4.1 then ((ick t 9 (f_X8_earliestArrival z t a0 a1 q4.2)).bind fun q6 =>
          (getI t 9 10 q6.2).bind fun x7 =>
          if q6.1 ≤ x7 then (some (0, q6.2))
          else (some (2, q6.2)))
        else (some (1, q4.2)))
      else (some ((-9), q3.2))))
set_option maxRecDepth 20000 in
theorem m_X8_late (z : Nat) (t : Option Nm) (a0 : Int32) (a1 : Int32) (g : Hp) : FM yX8_late cX8_late 3 (some .int) 6 138 rtI [sR t, sI a0, sI a1] g (f_X8_late z t a0 a1 g) := by
  refine FM.entry (by decide +kernel) (Nat.le_of_ble_eq_true rfl) (fun X hX => ?_)
  unfold f_X8_late
  show J yX8_late cX8_late 3 (some .int) 6 138 X g 0 [(0, sR t), (1, sI a0), (2, sI a1)] [] _
  refine j_aload_n (pc := 0) 0 dX8_late_0 rfl rfl ?_
  refine j_iload_n (pc := 1) 1 dX8_late_1 rfl rfl ?_
  refine j_callV (pc := 2) (own := RX8) [sI a0] [] dX8_late_2 lc_X8_221 lv_X8_isTown rfl (m_X8_isTown z t a0 g) ⟨⟨Nat.le_of_ble_eq_true rfl, Nat.le_of_ble_eq_true rfl⟩, Nat.le_of_ble_eq_true rfl⟩ rfl rfl (fun q1r q1g => ?_)
  refine j_if_eq (pc := 5) (tgt := 16) dX8_late_5 (by decide) rfl (fun hc => ?_) (fun hc => ?_)
  · refine j_iconst (pc := 16) (v := (-1)) dX8_late_16 (by decide) ?_
    exact j_ireturn dX8_late_17 hX rfl rfl
  · refine j_aload_n (pc := 8) 0 dX8_late_8 rfl rfl ?_
    refine j_iload_n (pc := 9) 2 dX8_late_9 rfl rfl ?_
    refine j_callV (pc := 10) (own := RX8) [sI a1] [] dX8_late_10 lc_X8_188 lv_X8_isQuake rfl (m_X8_isQuake z t a1 q1g) ⟨⟨Nat.le_of_ble_eq_true rfl, Nat.le_of_ble_eq_true rfl⟩, Nat.le_of_ble_eq_true rfl⟩ rfl rfl (fun q2r q2g => ?_)
    refine j_if_ne (pc := 13) (tgt := 18) dX8_late_13 (by decide) rfl (fun hc => ?_) (fun hc => ?_)
    · refine j_aload_n (pc := 18) 0 dX8_late_18 rfl rfl ?_
      refine j_iload_n (pc := 19) 2 dX8_late_19 rfl rfl ?_
      refine j_callV (pc := 20) (own := RX8) [sI a1] [] dX8_late_20 lc_X8_207 lv_X8_isOver rfl (m_X8_isOver z t a1 q2g) ⟨⟨Nat.le_of_ble_eq_true rfl, Nat.le_of_ble_eq_true rfl⟩, Nat.le_of_ble_eq_true rfl⟩ rfl rfl (fun q3r q3g => ?_)
      refine j_if_eq (pc := 23) (tgt := 29) dX8_late_23 (by decide) rfl (fun hc => ?_) (fun hc => ?_)
      · refine j_aload_n (pc := 29) 0 dX8_late_29 rfl rfl ?_
        refine j_iload_n (pc := 30) 1 dX8_late_30 rfl rfl ?_
        refine j_iload_n (pc := 31) 2 dX8_late_31 rfl rfl ?_
        refine j_callV (pc := 32) (own := RX8) [sI a0, sI a1] [] dX8_late_32 lc_X8_255 lv_X8_latestArrival rfl (m_X8_latestArrival z t a0 a1 q3g) ⟨⟨Nat.le_of_ble_eq_true rfl, Nat.le_of_ble_eq_true rfl⟩, Nat.le_of_ble_eq_true rfl⟩ rfl rfl (fun q4r q4g => ?_)
        refine j_aload_n (pc := 35) 0 dX8_late_35 rfl rfl ?_
        refine j_getI (pc := 36) (own := RX8) dX8_late_36 lf_X8_103 rfl rfl (fun x5 => ?_)
        refine j_icmp_gt (pc := 39) (tgt := 44) dX8_late_39 (by decide) rfl (fun hc => ?_) (fun hc => ?_)
        · refine j_aload_n (pc := 44) 0 dX8_late_44 rfl rfl ?_
          refine j_iload_n (pc := 45) 1 dX8_late_45 rfl rfl ?_
          refine j_iload_n (pc := 46) 2 dX8_late_46 rfl rfl ?_
          refine j_callV (pc := 47) (own := RX8) [sI a0, sI a1] [] dX8_late_47 lc_X8_258 lv_X8_earliestArrival rfl (m_X8_earliestArrival z t a0 a1 q4g) ⟨⟨Nat.le_of_ble_eq_true rfl, Nat.le_of_ble_eq_true rfl⟩, Nat.le_of_ble_eq_true rfl⟩ rfl rfl (fun q6r q6g => ?_)
          refine j_aload_n (pc := 50) 0 dX8_late_50 rfl rfl ?_
          refine j_getI (pc := 51) (own := RX8) dX8_late_51 lf_X8_103 rfl rfl (fun x7 => ?_)
          refine j_icmp_le (pc := 54) (tgt := 61) dX8_late_54 (by decide) rfl (fun hc => ?_) (fun hc => ?_)
          · refine j_iconst (pc := 61) (v := 0) dX8_late_61 (by decide) ?_
            exact j_ireturn dX8_late_62 hX rfl rfl
          · refine j_iconst (pc := 57) (v := 2) dX8_late_57 (by decide) ?_
            refine j_goto (pc := 58) (tgt := 62) dX8_late_58 (by decide) ?_
            exact j_ireturn dX8_late_62 hX rfl rfl
        · refine j_iconst (pc := 42) (v := 1) dX8_late_42 (by decide) ?_
          exact j_ireturn dX8_late_43 hX rfl rfl
      · refine j_bipush (pc := 26) (v := (-9)) dX8_late_26 (by decide) ?_
        exact j_ireturn dX8_late_28 hX rfl rfl
    · refine j_iconst (pc := 16) (v := (-1)) dX8_late_16 (by decide) ?_
      exact j_ireturn dX8_late_17 hX rfl rfl
/-! X8_left -/
noncomputable def f_X8_left (z : Nat) (t : Option Nm) (a0 : Int32) (a1 : Int32) (g : Hp) : Option (Int32 × Hp) :=
  (ick t 9 (f_X8_isTown z t a0 g)).bind fun q1 =>
  if q1.1 = 0 then (some ((-1), q1.2))
  else ((ick t 9 (f_X8_isQuake z t a1 q1.2)).bind fun q2 =>
    if q2.1 = 0 then (some ((-1), q2.2))
    else ((ick t 9 (f_X8_isOver z t a1 q2.2)).bind fun q3 =>
      if q3.1 = 0 then ((ick t 9 (f_X8_earliestArrival z t a0 a1 q3.2)).bind fun q4 =>
        (getI t 9 10 q4.2).bind fun x5 =>
        some ((imax 0 (q4.1 - x5)), q4.2))
      else (some ((-9), q3.2))))
set_option maxRecDepth 20000 in
theorem m_X8_left (z : Nat) (t : Option Nm) (a0 : Int32) (a1 : Int32) (g : Hp) : FM yX8_left cX8_left 3 (some .int) 6 138 rtI [sR t, sI a0, sI a1] g (f_X8_left z t a0 a1 g) := by
  refine FM.entry (by decide +kernel) (Nat.le_of_ble_eq_true rfl) (fun X hX => ?_)
  unfold f_X8_left
  show J yX8_left cX8_left 3 (some .int) 6 138 X g 0 [(0, sR t), (1, sI a0), (2, sI a1)] [] _
  refine j_aload_n (pc := 0) 0 dX8_left_0 rfl rfl ?_
  refine j_iload_n (pc := 1) 1 dX8_left_1 rfl rfl ?_
  refine j_callV (pc := 2) (own := RX8) [sI a0] [] dX8_left_2 lc_X8_221 lv_X8_isTown rfl (m_X8_isTown z t a0 g) ⟨⟨Nat.le_of_ble_eq_true rfl, Nat.le_of_ble_eq_true rfl⟩, Nat.le_of_ble_eq_true rfl⟩ rfl rfl (fun q1r q1g => ?_)
  refine j_if_eq (pc := 5) (tgt := 16) dX8_left_5 (by decide) rfl (fun hc => ?_) (fun hc => ?_)
  · refine j_iconst (pc := 16) (v := (-1)) dX8_left_16 (by decide) ?_
    exact j_ireturn dX8_left_17 hX rfl rfl
  · refine j_aload_n (pc := 8) 0 dX8_left_8 rfl rfl ?_
    refine j_iload_n (pc := 9) 2 dX8_left_9 rfl rfl ?_
    refine j_callV (pc := 10) (own := RX8) [sI a1] [] dX8_left_10 lc_X8_188 lv_X8_isQuake rfl (m_X8_isQuake z t a1 q1g) ⟨⟨Nat.le_of_ble_eq_true rfl, Nat.le_of_ble_eq_true rfl⟩, Nat.le_of_ble_eq_true rfl⟩ rfl rfl (fun q2r q2g => ?_)
    refine j_if_ne (pc := 13) (tgt := 18) dX8_left_13 (by decide) rfl (fun hc => ?_) (fun hc => ?_)
    · refine j_aload_n (pc := 18) 0 dX8_left_18 rfl rfl ?_
      refine j_iload_n (pc := 19) 2 dX8_left_19 rfl rfl ?_
      refine j_callV (pc := 20) (own := RX8) [sI a1] [] dX8_left_20 lc_X8_207 lv_X8_isOver rfl (m_X8_isOver z t a1 q2g) ⟨⟨Nat.le_of_ble_eq_true rfl, Nat.le_of_ble_eq_true rfl⟩, Nat.le_of_ble_eq_true rfl⟩ rfl rfl (fun q3r q3g => ?_)
      refine j_if_eq (pc := 23) (tgt := 29) dX8_left_23 (by decide) rfl (fun hc => ?_) (fun hc => ?_)
      · refine j_iconst (pc := 29) (v := 0) dX8_left_29 (by decide) ?_
        refine j_aload_n (pc := 30) 0 dX8_left_30 rfl rfl ?_
        refine j_iload_n (pc := 31) 1 dX8_left_31 rfl rfl ?_
        refine j_iload_n (pc := 32) 2 dX8_left_32 rfl rfl ?_
        refine j_callV (pc := 33) (own := RX8) [sI a0, sI a1] [sI 0] dX8_left_33 lc_X8_258 lv_X8_earliestArrival rfl (m_X8_earliestArrival z t a0 a1 q3g) ⟨⟨Nat.le_of_ble_eq_true rfl, Nat.le_of_ble_eq_true rfl⟩, Nat.le_of_ble_eq_true rfl⟩ rfl rfl (fun q4r q4g => ?_)
        refine j_aload_n (pc := 36) 0 dX8_left_36 rfl rfl ?_
        refine j_getI (pc := 37) (own := RX8) dX8_left_37 lf_X8_103 rfl rfl (fun x5 => ?_)
        refine j_isub (pc := 40) dX8_left_40 ?_
        refine j_max (pc := 41) (own := RX8) dX8_left_41 lM_X8_261 rfl ⟨Nat.le_of_ble_eq_true rfl, Nat.le_of_ble_eq_true rfl⟩ ?_
        exact j_ireturn dX8_left_44 hX rfl rfl
      · refine j_bipush (pc := 26) (v := (-9)) dX8_left_26 (by decide) ?_
        exact j_ireturn dX8_left_28 hX rfl rfl
    · refine j_iconst (pc := 16) (v := (-1)) dX8_left_16 (by decide) ?_
      exact j_ireturn dX8_left_17 hX rfl rfl
/-! X8_count -/
noncomputable def f_X8_count (z : Nat) (t : Option Nm) (a0 : Int32) (g : Hp) : Option (Int32 × Hp) :=
  tsw a0 [0, 1, 2, 3, 4, 5] [
    ((getR t 9 1 g).bind fun x1 =>
      (ick x1 0 (f_Jx4a65c_size_8abf5 z x1 g)).bind fun q2 =>
      some (q2.1, q2.2)),
    ((getR t 9 2 g).bind fun x3 =>
      (ick x3 0 (f_Jx4a65c_size_8abf5 z x3 g)).bind fun q4 =>
      some (q4.1, q4.2)),
    ((getR t 9 3 g).bind fun x5 =>
      (ick x5 0 (f_Jx4a65c_size_8abf5 z x5 g)).bind fun q6 =>
      some (q6.1, q6.2)),
    ((getR t 9 4 g).bind fun x7 =>
      (ick x7 0 (f_Jx4a65c_size_8abf5 z x7 g)).bind fun q8 =>
      some (q8.1, q8.2)),
    ((getI t 9 12 g).bind fun x9 =>
      some (x9, g)),
    ((getI t 9 10 g).bind fun x10 =>
      some (x10, g))]
    (some ((-1), g))
set_option maxRecDepth 20000 in
theorem m_X8_count (z : Nat) (t : Option Nm) (a0 : Int32) (g : Hp) : FM yX8_count cX8_count 2 (some .int) 1 20 rtI [sR t, sI a0] g (f_X8_count z t a0 g) := by
  refine FM.entry (by decide +kernel) (Nat.le_of_ble_eq_true rfl) (fun X hX => ?_)
  unfold f_X8_count
  show J yX8_count cX8_count 2 (some .int) 1 20 X g 0 [(0, sR t), (1, sI a0)] [] _
  refine j_iload_n (pc := 0) 1 dX8_count_0 rfl rfl ?_
  refine j_tsw (ts := [40, 48, 56, 64, 72, 77]) (td := 82) dX8_count_1 (by decide) (by decide) (by decide) (by decide) (by decide) rfl ?_ ⟨?_, ?_, ?_, ?_, ?_, ?_, trivial⟩
  · refine j_iconst (pc := 82) (v := (-1)) dX8_count_82 (by decide) ?_
    exact j_ireturn dX8_count_83 hX rfl rfl
  · refine j_aload_n (pc := 40) 0 dX8_count_40 rfl rfl ?_
    refine j_getR (pc := 41) (own := RX8) dX8_count_41 lf_X8_21 rfl rfl (fun x1 => ?_)
    refine j_callV (pc := 44) (own := RX8) [] [] dX8_count_44 lc_X8_70 lv_Jx4a65c_size_8abf5 rfl (m_Jx4a65c_size_8abf5 z x1 g) ⟨⟨Nat.le_of_ble_eq_true rfl, Nat.le_of_ble_eq_true rfl⟩, Nat.le_of_ble_eq_true rfl⟩ rfl rfl (fun q2r q2g => ?_)
    exact j_ireturn dX8_count_47 hX rfl rfl
  · refine j_aload_n (pc := 48) 0 dX8_count_48 rfl rfl ?_
    refine j_getR (pc := 49) (own := RX8) dX8_count_49 lf_X8_25 rfl rfl (fun x3 => ?_)
    refine j_callV (pc := 52) (own := RX8) [] [] dX8_count_52 lc_X8_70 lv_Jx4a65c_size_8abf5 rfl (m_Jx4a65c_size_8abf5 z x3 g) ⟨⟨Nat.le_of_ble_eq_true rfl, Nat.le_of_ble_eq_true rfl⟩, Nat.le_of_ble_eq_true rfl⟩ rfl rfl (fun q4r q4g => ?_)
    exact j_ireturn dX8_count_55 hX rfl rfl
  · refine j_aload_n (pc := 56) 0 dX8_count_56 rfl rfl ?_
    refine j_getR (pc := 57) (own := RX8) dX8_count_57 lf_X8_28 rfl rfl (fun x5 => ?_)
    refine j_callV (pc := 60) (own := RX8) [] [] dX8_count_60 lc_X8_70 lv_Jx4a65c_size_8abf5 rfl (m_Jx4a65c_size_8abf5 z x5 g) ⟨⟨Nat.le_of_ble_eq_true rfl, Nat.le_of_ble_eq_true rfl⟩, Nat.le_of_ble_eq_true rfl⟩ rfl rfl (fun q6r q6g => ?_)
    exact j_ireturn dX8_count_63 hX rfl rfl
  · refine j_aload_n (pc := 64) 0 dX8_count_64 rfl rfl ?_
    refine j_getR (pc := 65) (own := RX8) dX8_count_65 lf_X8_31 rfl rfl (fun x7 => ?_)
    refine j_callV (pc := 68) (own := RX8) [] [] dX8_count_68 lc_X8_70 lv_Jx4a65c_size_8abf5 rfl (m_Jx4a65c_size_8abf5 z x7 g) ⟨⟨Nat.le_of_ble_eq_true rfl, Nat.le_of_ble_eq_true rfl⟩, Nat.le_of_ble_eq_true rfl⟩ rfl rfl (fun q8r q8g => ?_)
    exact j_ireturn dX8_count_71 hX rfl rfl
  · refine j_aload_n (pc := 72) 0 dX8_count_72 rfl rfl ?_
    refine j_getI (pc := 73) (own := RX8) dX8_count_73 lf_X8_233 rfl rfl (fun x9 => ?_)
    exact j_ireturn dX8_count_76 hX rfl rfl
  · refine j_aload_n (pc := 77) 0 dX8_count_77 rfl rfl ?_
    refine j_getI (pc := 78) (own := RX8) dX8_count_78 lf_X8_103 rfl rfl (fun x10 => ?_)
    exact j_ireturn dX8_count_81 hX rfl rfl
