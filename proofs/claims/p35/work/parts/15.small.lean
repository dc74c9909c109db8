/-! by program: words of the tables -/
set_option maxRecDepth 20000 in
theorem lo_X7_3 : FLI RX7 3 := ⟨⟨List.mem_append_right _ (List.mem_of_getElem? (i := 32) (by decide +kernel)), rfl⟩, ⟨List.mem_append_right _ (List.mem_of_getElem? (i := 25) (by decide +kernel)), rfl⟩, ⟨List.mem_append_right _ (List.mem_of_getElem? (i := 26) (by decide +kernel)), rfl⟩⟩
set_option maxRecDepth 20000 in
theorem lA_int : Cond.arrayClass .int ∈ lw_tbl := List.mem_append_right _ (List.mem_of_getElem? (i := 44) (by decide +kernel))
set_option maxRecDepth 20000 in
theorem inTX7 : ∀ w ∈ u_ws RX7 TX7 1, w ∈ lw_tbl ∧ okW w = true := List.forall_mem_map.mpr fun k hk => by
  have hk2 := List.mem_range.mp hk
  obtain rfl : k = 0 := by omega
  exact ⟨List.mem_append_right _ (List.mem_of_getElem? (i := 41) (by decide +kernel)), rfl⟩
set_option maxRecDepth 20000 in
theorem lf_X7_9 : FLK RX7 9 8 0 true := ⟨RX7, TX7, 1, RX7, ⟨rfl, by decide, rfl, by decide⟩, inTX7, Or.inl ⟨List.mem_append_right _ (List.mem_of_getElem? (i := 40) (by decide +kernel)), rfl⟩, Or.inl rfl⟩
set_option maxRecDepth 20000 in
theorem lt_8_0 : FLT 8 0 (.array .int) := ⟨RX7, TX7, 1, tyX7, rfl, by decide +kernel, tyX7_ok, nmX7⟩
set_option maxRecDepth 20000 in
theorem lw_X7_9_X7_init : FLW yX7_init RX7 9 8 0 := ⟨RX7, TX7, 1, rfl, Or.inr ⟨rfl, rfl, rfl, List.mem_append_right _ (List.mem_of_getElem? (i := 40) (by decide +kernel)), rfl⟩⟩
set_option maxRecDepth 20000 in
theorem lc_X7_19 : FLC RX7 19 yX7_root cX7_root 3 (some .int) 1 := ⟨Or.inl ⟨List.mem_append_right _ (List.mem_of_getElem? (i := 37) (by decide +kernel)), rfl⟩, ⟨List.mem_append_right _ (List.mem_of_getElem? (i := 39) (by decide +kernel)), rfl⟩, ⟨List.mem_append_right _ (List.mem_of_getElem? (i := 2) (by decide +kernel)), rfl⟩, ⟨⟨by decide +kernel, by decide +kernel⟩, by decide +kernel⟩⟩
set_option maxRecDepth 20000 in
theorem ls_X7_root : FLS yX7_root := ⟨List.mem_append_right _ (List.mem_of_getElem? (i := 38) (by decide +kernel)), rfl⟩
set_option maxRecDepth 20000 in
theorem lc_X7_15 : FLC RX7 15 yX7_reckon cX7_reckon 5 none 1 := ⟨Or.inl ⟨List.mem_append_right _ (List.mem_of_getElem? (i := 33) (by decide +kernel)), rfl⟩, ⟨List.mem_append_right _ (List.mem_of_getElem? (i := 36) (by decide +kernel)), rfl⟩, ⟨List.mem_append_right _ (List.mem_of_getElem? (i := 2) (by decide +kernel)), rfl⟩, ⟨⟨by decide +kernel, by decide +kernel⟩, by decide +kernel⟩⟩
set_option maxRecDepth 20000 in
theorem lv_X7_reckon : FLV yX7_reckon 8 := ⟨by decide, by decide +kernel, ⟨List.mem_append_right _ (List.mem_of_getElem? (i := 35) (by decide +kernel)), rfl⟩, ⟨List.mem_append_left _ (List.mem_of_getElem? (i := 0) (by decide +kernel)), rfl⟩⟩
set_option maxRecDepth 20000 in
theorem lM_X7_23 : FLM RX7 23 Lib.Math.abs.name Lib.Math.abs.code 1 := ⟨⟨List.mem_append_right _ (List.mem_of_getElem? (i := 275) (by decide +kernel)), rfl⟩, ⟨List.mem_append_right _ (List.mem_of_getElem? (i := 276) (by decide +kernel)), rfl⟩, ⟨List.mem_append_right _ (List.mem_of_getElem? (i := 9) (by decide +kernel)), rfl⟩, ⟨List.mem_append_right _ (List.mem_of_getElem? (i := 277) (by decide +kernel)), rfl⟩⟩
set_option maxRecDepth 20000 in
theorem lo_X4_3 : FLI RX4 3 := ⟨⟨List.mem_append_right _ (List.mem_of_getElem? (i := 177) (by decide +kernel)), rfl⟩, ⟨List.mem_append_right _ (List.mem_of_getElem? (i := 25) (by decide +kernel)), rfl⟩, ⟨List.mem_append_right _ (List.mem_of_getElem? (i := 26) (by decide +kernel)), rfl⟩⟩
set_option maxRecDepth 20000 in
theorem inTX4 : ∀ w ∈ u_ws RX4 TX4 2, w ∈ lw_tbl ∧ okW w = true := List.forall_mem_map.mpr fun k hk => by
  have hk2 := List.mem_range.mp hk
  rcases (show k = 0 ∨ k = 1 by omega) with rfl | rfl
  · exact ⟨List.mem_append_right _ (List.mem_of_getElem? (i := 180) (by decide +kernel)), rfl⟩
  · exact ⟨List.mem_append_right _ (List.mem_of_getElem? (i := 182) (by decide +kernel)), rfl⟩
set_option maxRecDepth 20000 in
theorem lf_X4_9 : FLK RX4 9 5 0 true := ⟨RX4, TX4, 2, RX4, ⟨rfl, by decide, rfl, by decide⟩, inTX4, Or.inl ⟨List.mem_append_right _ (List.mem_of_getElem? (i := 178) (by decide +kernel)), rfl⟩, Or.inl rfl⟩
set_option maxRecDepth 20000 in
theorem lt_5_0 : FLT 5 0 (.array .int) := ⟨RX4, TX4, 2, tyX4, rfl, by decide +kernel, tyX4_ok, nmX4⟩
set_option maxRecDepth 20000 in
theorem lw_X4_9_X4_init : FLW yX4_init RX4 9 5 0 := ⟨RX4, TX4, 2, rfl, Or.inr ⟨rfl, rfl, rfl, List.mem_append_right _ (List.mem_of_getElem? (i := 178) (by decide +kernel)), rfl⟩⟩
set_option maxRecDepth 20000 in
theorem lf_X4_15 : FLK RX4 15 5 1 false := ⟨RX4, TX4, 2, RX4, ⟨rfl, by decide, rfl, by decide⟩, inTX4, Or.inl ⟨List.mem_append_right _ (List.mem_of_getElem? (i := 179) (by decide +kernel)), rfl⟩, Or.inl rfl⟩
set_option maxRecDepth 20000 in
theorem lt_5_1 : FLT 5 1 .int := ⟨RX4, TX4, 2, tyX4, rfl, by decide +kernel, tyX4_ok, nmX4⟩
set_option maxRecDepth 20000 in
theorem lw_X4_15_X4_init : FLW yX4_init RX4 15 5 1 := ⟨RX4, TX4, 2, rfl, Or.inl rfl⟩
set_option maxRecDepth 20000 in
theorem lo_X5_1 : FLI RX5 1 := ⟨⟨List.mem_append_right _ (List.mem_of_getElem? (i := 171) (by decide +kernel)), rfl⟩, ⟨List.mem_append_right _ (List.mem_of_getElem? (i := 25) (by decide +kernel)), rfl⟩, ⟨List.mem_append_right _ (List.mem_of_getElem? (i := 26) (by decide +kernel)), rfl⟩⟩
set_option maxRecDepth 20000 in
theorem ln_X5_7 : FLN RX5 7 5 := ⟨RX4, TX4, 2, tyX4, ⟨rfl, by decide, rfl⟩, tyX4_ok, (fun j hj b hb => by
  rcases (show j = 0 ∨ j = 1 by omega) with rfl | rfl <;> (cases hb; rfl)), inTX4, ⟨List.mem_append_right _ (List.mem_of_getElem? (i := 172) (by decide +kernel)), rfl⟩, ⟨List.mem_append_right _ (List.mem_of_getElem? (i := 173) (by decide +kernel)), rfl⟩, ⟨List.mem_append_right _ (List.mem_of_getElem? (i := 13) (by decide +kernel)), rfl⟩⟩
set_option maxRecDepth 20000 in
theorem lc_X5_9 : FLC RX5 9 yX4_init cX4_init 1 none 0 := ⟨Or.inr ⟨RX8, List.mem_append_right _ (List.mem_of_getElem? (i := 174) (by decide +kernel))⟩, ⟨List.mem_append_right _ (List.mem_of_getElem? (i := 176) (by decide +kernel)), rfl⟩, ⟨List.mem_append_right _ (List.mem_of_getElem? (i := 13) (by decide +kernel)), rfl⟩, ⟨⟨by decide +kernel, by decide +kernel⟩, by decide +kernel⟩⟩
set_option maxRecDepth 20000 in
theorem li_X4_init : FLN0 yX4_init := ⟨by decide +kernel, List.mem_append_right _ (List.mem_of_getElem? (i := 175) (by decide +kernel)), rfl⟩
set_option maxRecDepth 20000 in
theorem inTX5 : ∀ w ∈ u_ws RX5 TX5 3, w ∈ lw_tbl ∧ okW w = true := List.forall_mem_map.mpr fun k hk => by
  have hk2 := List.mem_range.mp hk
  rcases (show k = 0 ∨ k = 1 ∨ k = 2 by omega) with rfl | rfl | rfl
  · exact ⟨List.mem_append_right _ (List.mem_of_getElem? (i := 189) (by decide +kernel)), rfl⟩
  · exact ⟨List.mem_append_right _ (List.mem_of_getElem? (i := 191) (by decide +kernel)), rfl⟩
  · exact ⟨List.mem_append_right _ (List.mem_of_getElem? (i := 193) (by decide +kernel)), rfl⟩
set_option maxRecDepth 20000 in
theorem lf_X5_10 : FLK RX5 10 6 1 true := ⟨RX5, TX5, 3, RX5, ⟨rfl, by decide, rfl, by decide⟩, inTX5, Or.inl ⟨List.mem_append_right _ (List.mem_of_getElem? (i := 187) (by decide +kernel)), rfl⟩, Or.inl rfl⟩
set_option maxRecDepth 20000 in
theorem lt_6_1 : FLT 6 1 (.object "FirstSeconds$Row") := ⟨RX5, TX5, 3, tyX5, rfl, by decide +kernel, tyX5_ok, nmX5⟩
set_option maxRecDepth 20000 in
theorem lw_X5_10_X5_init : FLW yX5_init RX5 10 6 1 := ⟨RX5, TX5, 3, rfl, Or.inr ⟨rfl, rfl, rfl, List.mem_append_right _ (List.mem_of_getElem? (i := 187) (by decide +kernel)), rfl⟩⟩
set_option maxRecDepth 20000 in
theorem lf_X5_16 : FLK RX5 16 6 0 false := ⟨RX5, TX5, 3, RX5, ⟨rfl, by decide, rfl, by decide⟩, inTX5, Or.inl ⟨List.mem_append_right _ (List.mem_of_getElem? (i := 185) (by decide +kernel)), rfl⟩, Or.inl rfl⟩
set_option maxRecDepth 20000 in
theorem lt_6_0 : FLT 6 0 .int := ⟨RX5, TX5, 3, tyX5, rfl, by decide +kernel, tyX5_ok, nmX5⟩
set_option maxRecDepth 20000 in
theorem lw_X5_16_X5_init : FLW yX5_init RX5 16 6 0 := ⟨RX5, TX5, 3, rfl, Or.inr ⟨rfl, rfl, rfl, List.mem_append_right _ (List.mem_of_getElem? (i := 185) (by decide +kernel)), rfl⟩⟩
set_option maxRecDepth 20000 in
theorem lo_X6_1 : FLI RX6 1 := ⟨⟨List.mem_append_right _ (List.mem_of_getElem? (i := 261) (by decide +kernel)), rfl⟩, ⟨List.mem_append_right _ (List.mem_of_getElem? (i := 25) (by decide +kernel)), rfl⟩, ⟨List.mem_append_right _ (List.mem_of_getElem? (i := 26) (by decide +kernel)), rfl⟩⟩
set_option maxRecDepth 20000 in
theorem inTX6 : ∀ w ∈ u_ws RX6 TX6 1, w ∈ lw_tbl ∧ okW w = true := List.forall_mem_map.mpr fun k hk => by
  have hk2 := List.mem_range.mp hk
  obtain rfl : k = 0 := by omega
  exact ⟨List.mem_append_right _ (List.mem_of_getElem? (i := 264) (by decide +kernel)), rfl⟩
set_option maxRecDepth 20000 in
theorem lf_X6_7 : FLK RX6 7 7 0 false := ⟨RX6, TX6, 1, RX6, ⟨rfl, by decide, rfl, by decide⟩, inTX6, Or.inl ⟨List.mem_append_right _ (List.mem_of_getElem? (i := 262) (by decide +kernel)), rfl⟩, Or.inl rfl⟩
set_option maxRecDepth 20000 in
theorem lt_7_0 : FLT 7 0 .int := ⟨RX6, TX6, 1, tyX6, rfl, by decide +kernel, tyX6_ok, nmX6⟩
set_option maxRecDepth 20000 in
theorem lw_X6_7_X6_init : FLW yX6_init RX6 7 7 0 := ⟨RX6, TX6, 1, rfl, Or.inr ⟨rfl, rfl, rfl, List.mem_append_right _ (List.mem_of_getElem? (i := 262) (by decide +kernel)), rfl⟩⟩
set_option maxRecDepth 20000 in
theorem lo_X2_3 : FLI RX2 3 := ⟨⟨List.mem_append_right _ (List.mem_of_getElem? (i := 373) (by decide +kernel)), rfl⟩, ⟨List.mem_append_right _ (List.mem_of_getElem? (i := 25) (by decide +kernel)), rfl⟩, ⟨List.mem_append_right _ (List.mem_of_getElem? (i := 26) (by decide +kernel)), rfl⟩⟩
set_option maxRecDepth 20000 in
theorem inTX2 : ∀ w ∈ u_ws RX2 TX2 5, w ∈ lw_tbl ∧ okW w = true := List.forall_mem_map.mpr fun k hk => by
  have hk2 := List.mem_range.mp hk
  rcases (show k = 0 ∨ k = 1 ∨ k = 2 ∨ k = 3 ∨ k = 4 by omega) with rfl | rfl | rfl | rfl | rfl
  · exact ⟨List.mem_append_right _ (List.mem_of_getElem? (i := 379) (by decide +kernel)), rfl⟩
  · exact ⟨List.mem_append_right _ (List.mem_of_getElem? (i := 381) (by decide +kernel)), rfl⟩
  · exact ⟨List.mem_append_right _ (List.mem_of_getElem? (i := 383) (by decide +kernel)), rfl⟩
  · exact ⟨List.mem_append_right _ (List.mem_of_getElem? (i := 385) (by decide +kernel)), rfl⟩
  · exact ⟨List.mem_append_right _ (List.mem_of_getElem? (i := 387) (by decide +kernel)), rfl⟩
set_option maxRecDepth 20000 in
theorem lf_X2_9 : FLK RX2 9 3 0 false := ⟨RX2, TX2, 5, RX2, ⟨rfl, by decide, rfl, by decide⟩, inTX2, Or.inl ⟨List.mem_append_right _ (List.mem_of_getElem? (i := 374) (by decide +kernel)), rfl⟩, Or.inl rfl⟩
set_option maxRecDepth 20000 in
theorem lt_3_0 : FLT 3 0 .int := ⟨RX2, TX2, 5, tyX2, rfl, by decide +kernel, tyX2_ok, nmX2⟩
set_option maxRecDepth 20000 in
theorem lw_X2_9_X2_init : FLW yX2_init RX2 9 3 0 := ⟨RX2, TX2, 5, rfl, Or.inr ⟨rfl, rfl, rfl, List.mem_append_right _ (List.mem_of_getElem? (i := 374) (by decide +kernel)), rfl⟩⟩
set_option maxRecDepth 20000 in
theorem lf_X2_15 : FLK RX2 15 3 1 false := ⟨RX2, TX2, 5, RX2, ⟨rfl, by decide, rfl, by decide⟩, inTX2, Or.inl ⟨List.mem_append_right _ (List.mem_of_getElem? (i := 375) (by decide +kernel)), rfl⟩, Or.inl rfl⟩
set_option maxRecDepth 20000 in
theorem lt_3_1 : FLT 3 1 .int := ⟨RX2, TX2, 5, tyX2, rfl, by decide +kernel, tyX2_ok, nmX2⟩
set_option maxRecDepth 20000 in
theorem lw_X2_15_X2_init : FLW yX2_init RX2 15 3 1 := ⟨RX2, TX2, 5, rfl, Or.inr ⟨rfl, rfl, rfl, List.mem_append_right _ (List.mem_of_getElem? (i := 375) (by decide +kernel)), rfl⟩⟩
set_option maxRecDepth 20000 in
theorem lf_X2_18 : FLK RX2 18 3 2 false := ⟨RX2, TX2, 5, RX2, ⟨rfl, by decide, rfl, by decide⟩, inTX2, Or.inl ⟨List.mem_append_right _ (List.mem_of_getElem? (i := 376) (by decide +kernel)), rfl⟩, Or.inl rfl⟩
set_option maxRecDepth 20000 in
theorem lt_3_2 : FLT 3 2 .int := ⟨RX2, TX2, 5, tyX2, rfl, by decide +kernel, tyX2_ok, nmX2⟩
set_option maxRecDepth 20000 in
theorem lw_X2_18_X2_init : FLW yX2_init RX2 18 3 2 := ⟨RX2, TX2, 5, rfl, Or.inr ⟨rfl, rfl, rfl, List.mem_append_right _ (List.mem_of_getElem? (i := 376) (by decide +kernel)), rfl⟩⟩
set_option maxRecDepth 20000 in
theorem lf_X2_21 : FLK RX2 21 3 3 false := ⟨RX2, TX2, 5, RX2, ⟨rfl, by decide, rfl, by decide⟩, inTX2, Or.inl ⟨List.mem_append_right _ (List.mem_of_getElem? (i := 377) (by decide +kernel)), rfl⟩, Or.inl rfl⟩
set_option maxRecDepth 20000 in
theorem lt_3_3 : FLT 3 3 .int := ⟨RX2, TX2, 5, tyX2, rfl, by decide +kernel, tyX2_ok, nmX2⟩
set_option maxRecDepth 20000 in
theorem lw_X2_21_X2_init : FLW yX2_init RX2 21 3 3 := ⟨RX2, TX2, 5, rfl, Or.inr ⟨rfl, rfl, rfl, List.mem_append_right _ (List.mem_of_getElem? (i := 377) (by decide +kernel)), rfl⟩⟩
set_option maxRecDepth 20000 in
theorem lf_X2_24 : FLK RX2 24 3 4 false := ⟨RX2, TX2, 5, RX2, ⟨rfl, by decide, rfl, by decide⟩, inTX2, Or.inl ⟨List.mem_append_right _ (List.mem_of_getElem? (i := 378) (by decide +kernel)), rfl⟩, Or.inl rfl⟩
set_option maxRecDepth 20000 in
theorem lt_3_4 : FLT 3 4 .int := ⟨RX2, TX2, 5, tyX2, rfl, by decide +kernel, tyX2_ok, nmX2⟩
set_option maxRecDepth 20000 in
theorem lw_X2_24_X2_init : FLW yX2_init RX2 24 3 4 := ⟨RX2, TX2, 5, rfl, Or.inr ⟨rfl, rfl, rfl, List.mem_append_right _ (List.mem_of_getElem? (i := 378) (by decide +kernel)), rfl⟩⟩
set_option maxRecDepth 20000 in
theorem lo_X3_3 : FLI RX3 3 := ⟨⟨List.mem_append_right _ (List.mem_of_getElem? (i := 393) (by decide +kernel)), rfl⟩, ⟨List.mem_append_right _ (List.mem_of_getElem? (i := 25) (by decide +kernel)), rfl⟩, ⟨List.mem_append_right _ (List.mem_of_getElem? (i := 26) (by decide +kernel)), rfl⟩⟩
set_option maxRecDepth 20000 in
theorem inTX3 : ∀ w ∈ u_ws RX3 TX3 6, w ∈ lw_tbl ∧ okW w = true := List.forall_mem_map.mpr fun k hk => by
  have hk2 := List.mem_range.mp hk
  rcases (show k = 0 ∨ k = 1 ∨ k = 2 ∨ k = 3 ∨ k = 4 ∨ k = 5 by omega) with rfl | rfl | rfl | rfl | rfl | rfl
  · exact ⟨List.mem_append_right _ (List.mem_of_getElem? (i := 405) (by decide +kernel)), rfl⟩
  · exact ⟨List.mem_append_right _ (List.mem_of_getElem? (i := 407) (by decide +kernel)), rfl⟩
  · exact ⟨List.mem_append_right _ (List.mem_of_getElem? (i := 409) (by decide +kernel)), rfl⟩
  · exact ⟨List.mem_append_right _ (List.mem_of_getElem? (i := 411) (by decide +kernel)), rfl⟩
  · exact ⟨List.mem_append_right _ (List.mem_of_getElem? (i := 413) (by decide +kernel)), rfl⟩
  · exact ⟨List.mem_append_right _ (List.mem_of_getElem? (i := 415) (by decide +kernel)), rfl⟩
set_option maxRecDepth 20000 in
theorem lf_X3_9 : FLK RX3 9 4 2 true := ⟨RX3, TX3, 6, RX3, ⟨rfl, by decide, rfl, by decide⟩, inTX3, Or.inl ⟨List.mem_append_right _ (List.mem_of_getElem? (i := 399) (by decide +kernel)), rfl⟩, Or.inl rfl⟩
set_option maxRecDepth 20000 in
theorem lt_4_2 : FLT 4 2 (.array .int) := ⟨RX3, TX3, 6, tyX3, rfl, by decide +kernel, tyX3_ok, nmX3⟩
set_option maxRecDepth 20000 in
theorem lw_X3_9_X3_init : FLW yX3_init RX3 9 4 2 := ⟨RX3, TX3, 6, rfl, Or.inr ⟨rfl, rfl, rfl, List.mem_append_right _ (List.mem_of_getElem? (i := 399) (by decide +kernel)), rfl⟩⟩
set_option maxRecDepth 20000 in
theorem lf_X3_15 : FLK RX3 15 4 4 true := ⟨RX3, TX3, 6, RX3, ⟨rfl, by decide, rfl, by decide⟩, inTX3, Or.inl ⟨List.mem_append_right _ (List.mem_of_getElem? (i := 403) (by decide +kernel)), rfl⟩, Or.inl rfl⟩
set_option maxRecDepth 20000 in
theorem lt_4_4 : FLT 4 4 (.array .int) := ⟨RX3, TX3, 6, tyX3, rfl, by decide +kernel, tyX3_ok, nmX3⟩
set_option maxRecDepth 20000 in
theorem lw_X3_15_X3_init : FLW yX3_init RX3 15 4 4 := ⟨RX3, TX3, 6, rfl, Or.inr ⟨rfl, rfl, rfl, List.mem_append_right _ (List.mem_of_getElem? (i := 403) (by decide +kernel)), rfl⟩⟩
set_option maxRecDepth 20000 in
theorem lf_X3_18 : FLK RX3 18 4 5 true := ⟨RX3, TX3, 6, RX3, ⟨rfl, by decide, rfl, by decide⟩, inTX3, Or.inl ⟨List.mem_append_right _ (List.mem_of_getElem? (i := 404) (by decide +kernel)), rfl⟩, Or.inl rfl⟩
set_option maxRecDepth 20000 in
theorem lt_4_5 : FLT 4 5 (.array .int) := ⟨RX3, TX3, 6, tyX3, rfl, by decide +kernel, tyX3_ok, nmX3⟩
set_option maxRecDepth 20000 in
theorem lw_X3_18_X3_init : FLW yX3_init RX3 18 4 5 := ⟨RX3, TX3, 6, rfl, Or.inr ⟨rfl, rfl, rfl, List.mem_append_right _ (List.mem_of_getElem? (i := 404) (by decide +kernel)), rfl⟩⟩
set_option maxRecDepth 20000 in
theorem lf_X3_21 : FLK RX3 21 4 0 false := ⟨RX3, TX3, 6, RX3, ⟨rfl, by decide, rfl, by decide⟩, inTX3, Or.inl ⟨List.mem_append_right _ (List.mem_of_getElem? (i := 395) (by decide +kernel)), rfl⟩, Or.inl rfl⟩
set_option maxRecDepth 20000 in
theorem lt_4_0 : FLT 4 0 .int := ⟨RX3, TX3, 6, tyX3, rfl, by decide +kernel, tyX3_ok, nmX3⟩
set_option maxRecDepth 20000 in
theorem lw_X3_21_X3_init : FLW yX3_init RX3 21 4 0 := ⟨RX3, TX3, 6, rfl, Or.inr ⟨rfl, rfl, rfl, List.mem_append_right _ (List.mem_of_getElem? (i := 395) (by decide +kernel)), rfl⟩⟩
set_option maxRecDepth 20000 in
theorem lf_X3_25 : FLK RX3 25 4 1 false := ⟨RX3, TX3, 6, RX3, ⟨rfl, by decide, rfl, by decide⟩, inTX3, Or.inl ⟨List.mem_append_right _ (List.mem_of_getElem? (i := 397) (by decide +kernel)), rfl⟩, Or.inl rfl⟩
set_option maxRecDepth 20000 in
theorem lt_4_1 : FLT 4 1 .int := ⟨RX3, TX3, 6, tyX3, rfl, by decide +kernel, tyX3_ok, nmX3⟩
set_option maxRecDepth 20000 in
theorem lw_X3_25_X3_init : FLW yX3_init RX3 25 4 1 := ⟨RX3, TX3, 6, rfl, Or.inr ⟨rfl, rfl, rfl, List.mem_append_right _ (List.mem_of_getElem? (i := 397) (by decide +kernel)), rfl⟩⟩
set_option maxRecDepth 20000 in
theorem lf_X3_32 : FLK RX3 32 4 3 false := ⟨RX3, TX3, 6, RX3, ⟨rfl, by decide, rfl, by decide⟩, inTX3, Or.inl ⟨List.mem_append_right _ (List.mem_of_getElem? (i := 401) (by decide +kernel)), rfl⟩, Or.inl rfl⟩
set_option maxRecDepth 20000 in
theorem lt_4_3 : FLT 4 3 .int := ⟨RX3, TX3, 6, tyX3, rfl, by decide +kernel, tyX3_ok, nmX3⟩
set_option maxRecDepth 20000 in
theorem lw_X3_32_X3_hear : FLW yX3_hear RX3 32 4 3 := ⟨RX3, TX3, 6, rfl, Or.inl rfl⟩
set_option maxRecDepth 20000 in
theorem lc_X3_28 : FLC RX3 28 yX3_hear cX3_hear 3 none 2 := ⟨Or.inl ⟨List.mem_append_right _ (List.mem_of_getElem? (i := 394) (by decide +kernel)), rfl⟩, ⟨List.mem_append_right _ (List.mem_of_getElem? (i := 367) (by decide +kernel)), rfl⟩, ⟨List.mem_append_right _ (List.mem_of_getElem? (i := 18) (by decide +kernel)), rfl⟩, ⟨⟨by decide +kernel, by decide +kernel⟩, by decide +kernel⟩⟩
set_option maxRecDepth 20000 in
theorem lv_X3_hear : FLV yX3_hear 4 := ⟨by decide, by decide +kernel, ⟨List.mem_append_right _ (List.mem_of_getElem? (i := 366) (by decide +kernel)), rfl⟩, ⟨List.mem_append_left _ (List.mem_of_getElem? (i := 17) (by decide +kernel)), rfl⟩⟩
set_option maxRecDepth 20000 in
theorem lo_X0_3 : FLI RX0 3 := ⟨⟨List.mem_append_right _ (List.mem_of_getElem? (i := 76) (by decide +kernel)), rfl⟩, ⟨List.mem_append_right _ (List.mem_of_getElem? (i := 25) (by decide +kernel)), rfl⟩, ⟨List.mem_append_right _ (List.mem_of_getElem? (i := 26) (by decide +kernel)), rfl⟩⟩
set_option maxRecDepth 20000 in
theorem inTX0 : ∀ w ∈ u_ws RX0 TX0 6, w ∈ lw_tbl ∧ okW w = true := List.forall_mem_map.mpr fun k hk => by
  have hk2 := List.mem_range.mp hk
  rcases (show k = 0 ∨ k = 1 ∨ k = 2 ∨ k = 3 ∨ k = 4 ∨ k = 5 by omega) with rfl | rfl | rfl | rfl | rfl | rfl
  · exact ⟨List.mem_append_right _ (List.mem_of_getElem? (i := 89) (by decide +kernel)), rfl⟩
  · exact ⟨List.mem_append_right _ (List.mem_of_getElem? (i := 91) (by decide +kernel)), rfl⟩
  · exact ⟨List.mem_append_right _ (List.mem_of_getElem? (i := 93) (by decide +kernel)), rfl⟩
  · exact ⟨List.mem_append_right _ (List.mem_of_getElem? (i := 95) (by decide +kernel)), rfl⟩
  · exact ⟨List.mem_append_right _ (List.mem_of_getElem? (i := 97) (by decide +kernel)), rfl⟩
  · exact ⟨List.mem_append_right _ (List.mem_of_getElem? (i := 99) (by decide +kernel)), rfl⟩
set_option maxRecDepth 20000 in
theorem lf_X0_9 : FLK RX0 9 1 0 true := ⟨RX0, TX0, 6, RX0, ⟨rfl, by decide, rfl, by decide⟩, inTX0, Or.inl ⟨List.mem_append_right _ (List.mem_of_getElem? (i := 77) (by decide +kernel)), rfl⟩, Or.inl rfl⟩
set_option maxRecDepth 20000 in
theorem lt_1_0 : FLT 1 0 (.array .int) := ⟨RX0, TX0, 6, tyX0, rfl, by decide +kernel, tyX0_ok, nmX0⟩
set_option maxRecDepth 20000 in
theorem lw_X0_9_X0_init : FLW yX0_init RX0 9 1 0 := ⟨RX0, TX0, 6, rfl, Or.inr ⟨rfl, rfl, rfl, List.mem_append_right _ (List.mem_of_getElem? (i := 77) (by decide +kernel)), rfl⟩⟩
set_option maxRecDepth 20000 in
theorem lf_X0_15 : FLK RX0 15 1 1 true := ⟨RX0, TX0, 6, RX0, ⟨rfl, by decide, rfl, by decide⟩, inTX0, Or.inl ⟨List.mem_append_right _ (List.mem_of_getElem? (i := 79) (by decide +kernel)), rfl⟩, Or.inl rfl⟩
set_option maxRecDepth 20000 in
theorem lt_1_1 : FLT 1 1 (.array .int) := ⟨RX0, TX0, 6, tyX0, rfl, by decide +kernel, tyX0_ok, nmX0⟩
set_option maxRecDepth 20000 in
theorem lw_X0_15_X0_init : FLW yX0_init RX0 15 1 1 := ⟨RX0, TX0, 6, rfl, Or.inr ⟨rfl, rfl, rfl, List.mem_append_right _ (List.mem_of_getElem? (i := 79) (by decide +kernel)), rfl⟩⟩
set_option maxRecDepth 20000 in
theorem lf_X0_18 : FLK RX0 18 1 5 false := ⟨RX0, TX0, 6, RX0, ⟨rfl, by decide, rfl, by decide⟩, inTX0, Or.inl ⟨List.mem_append_right _ (List.mem_of_getElem? (i := 87) (by decide +kernel)), rfl⟩, Or.inl rfl⟩
set_option maxRecDepth 20000 in
theorem lt_1_5 : FLT 1 5 .int := ⟨RX0, TX0, 6, tyX0, rfl, by decide +kernel, tyX0_ok, nmX0⟩
set_option maxRecDepth 20000 in
theorem lw_X0_18_X0_init : FLW yX0_init RX0 18 1 5 := ⟨RX0, TX0, 6, rfl, Or.inl rfl⟩
set_option maxRecDepth 20000 in
theorem lw_X0_18_X0_forget : FLW yX0_forget RX0 18 1 5 := ⟨RX0, TX0, 6, rfl, Or.inl rfl⟩
set_option maxRecDepth 20000 in
theorem lw_X0_18_X0_clear : FLW yX0_clear RX0 18 1 5 := ⟨RX0, TX0, 6, rfl, Or.inl rfl⟩
set_option maxRecDepth 20000 in
theorem lk_X0_22 : Cond.constant RX0 22 (-1000000) ∈ lw_tbl := List.mem_append_right _ (List.mem_of_getElem? (i := 336) (by decide +kernel))
set_option maxRecDepth 20000 in
theorem lk_X0_23 : Cond.constant RX0 23 1000000 ∈ lw_tbl := List.mem_append_right _ (List.mem_of_getElem? (i := 337) (by decide +kernel))
set_option maxRecDepth 20000 in
theorem lc_X0_24 : FLC RX0 24 yX7_between cX7_between 5 (some .int) 2 := ⟨Or.inr ⟨RX8, List.mem_append_right _ (List.mem_of_getElem? (i := 342) (by decide +kernel))⟩, ⟨List.mem_append_right _ (List.mem_of_getElem? (i := 274) (by decide +kernel)), rfl⟩, ⟨List.mem_append_right _ (List.mem_of_getElem? (i := 2) (by decide +kernel)), rfl⟩, ⟨⟨by decide +kernel, by decide +kernel⟩, by decide +kernel⟩⟩
set_option maxRecDepth 20000 in
theorem lv_X7_between : FLV yX7_between 8 := ⟨by decide, by decide +kernel, ⟨List.mem_append_right _ (List.mem_of_getElem? (i := 273) (by decide +kernel)), rfl⟩, ⟨List.mem_append_left _ (List.mem_of_getElem? (i := 4) (by decide +kernel)), rfl⟩⟩
set_option maxRecDepth 20000 in
theorem lM_X0_30 : FLM RX0 30 Lib.Math.max.name Lib.Math.max.code 2 := ⟨⟨List.mem_append_right _ (List.mem_of_getElem? (i := 343) (by decide +kernel)), rfl⟩, ⟨List.mem_append_right _ (List.mem_of_getElem? (i := 216) (by decide +kernel)), rfl⟩, ⟨List.mem_append_right _ (List.mem_of_getElem? (i := 9) (by decide +kernel)), rfl⟩, ⟨List.mem_append_right _ (List.mem_of_getElem? (i := 217) (by decide +kernel)), rfl⟩⟩
set_option maxRecDepth 20000 in
theorem lM_X0_35 : FLM RX0 35 Lib.Math.min.name Lib.Math.min.code 2 := ⟨⟨List.mem_append_right _ (List.mem_of_getElem? (i := 344) (by decide +kernel)), rfl⟩, ⟨List.mem_append_right _ (List.mem_of_getElem? (i := 245) (by decide +kernel)), rfl⟩, ⟨List.mem_append_right _ (List.mem_of_getElem? (i := 9) (by decide +kernel)), rfl⟩, ⟨List.mem_append_right _ (List.mem_of_getElem? (i := 246) (by decide +kernel)), rfl⟩⟩
set_option maxRecDepth 20000 in
theorem lf_X0_38 : FLK RX0 38 1 2 false := ⟨RX0, TX0, 6, RX0, ⟨rfl, by decide, rfl, by decide⟩, inTX0, Or.inl ⟨List.mem_append_right _ (List.mem_of_getElem? (i := 81) (by decide +kernel)), rfl⟩, Or.inl rfl⟩
set_option maxRecDepth 20000 in
theorem lt_1_2 : FLT 1 2 .int := ⟨RX0, TX0, 6, tyX0, rfl, by decide +kernel, tyX0_ok, nmX0⟩
set_option maxRecDepth 20000 in
theorem lw_X0_38_X0_countCells : FLW yX0_countCells RX0 38 1 2 := ⟨RX0, TX0, 6, rfl, Or.inl rfl⟩
set_option maxRecDepth 20000 in
theorem lc_X0_41 : FLC RX0 41 yX0_has cX0_has 2 (some .boolean) 1 := ⟨Or.inl ⟨List.mem_append_right _ (List.mem_of_getElem? (i := 349) (by decide +kernel)), rfl⟩, ⟨List.mem_append_right _ (List.mem_of_getElem? (i := 352) (by decide +kernel)), rfl⟩, ⟨List.mem_append_right _ (List.mem_of_getElem? (i := 6) (by decide +kernel)), rfl⟩, ⟨⟨by decide +kernel, by decide +kernel⟩, by decide +kernel⟩⟩
set_option maxRecDepth 20000 in
theorem lv_X0_has : FLV yX0_has 1 := ⟨by decide, by decide +kernel, ⟨List.mem_append_right _ (List.mem_of_getElem? (i := 351) (by decide +kernel)), rfl⟩, ⟨List.mem_append_left _ (List.mem_of_getElem? (i := 15) (by decide +kernel)), rfl⟩⟩
/-! by program: what the methods do, and that their bytecode does it -/
/-! X7_root -/
noncomputable def f_X7_root_6_b (z : Nat) (p0 : Int32) (rec : Int32 → Int32 → Hp → Option (Int32 × Int32 × Hp)) (v2 : Int32) (v1 : Int32) (g : Hp) : Option (Int32 × Int32 × Hp) :=
  if v2 ≤ 0 then (some (v2, v1, g))
  else (((if p0 < ((v1 + v2) * (v1 + v2)) then (some (v1))
      else (some ((v1 + v2)))) : Option (Int32)).bind fun q1 =>
    (dvI v2 2).bind fun x2 =>
    rec x2 q1 g)
noncomputable def f_X7_root_6_L (z : Nat) (p0 : Int32) : Nat → Int32 → Int32 → Hp → Option (Int32 × Int32 × Hp)
  | 0, _, _, _ => none
  | n + 1, v2, v1, g => f_X7_root_6_b z p0 (f_X7_root_6_L z p0 n) v2 v1 g
noncomputable def f_X7_root (z : Nat) (a0 : Int32) (g : Hp) : Option (Int32 × Hp) :=
  (f_X7_root_6_L z a0 z 256 0 g).bind fun q3 =>
  some (q3.2.1, q3.2.2)
set_option maxRecDepth 20000 in
theorem b_X7_root_6 {X : Xt Int32} (hX : IsM rtI X) (z : Nat) (p0 : Int32) (rec : Int32 → Int32 → Hp → Option (Int32 × Int32 × Hp)) (K : Int32 × Int32 × Hp → Option (Int32 × Hp)) (he : ∀ (v2 : Int32) (v1 : Int32) (g : Hp), J yX7_root cX7_root 3 (some .int) 0 0 X g 32 [(2, sI v2), (1, sI v1), (0, sI p0)] [] (K (v2, v1, g))) (hr : ∀ (v2 : Int32) (v1 : Int32) (g : Hp), J yX7_root cX7_root 3 (some .int) 0 0 X g 6 [(2, sI v2), (1, sI v1), (0, sI p0)] [] ((rec v2 v1 g).bind K)) (v2 : Int32) (v1 : Int32) (g : Hp) : J yX7_root cX7_root 3 (some .int) 0 0 X g 6 [(2, sI v2), (1, sI v1), (0, sI p0)] [] ((f_X7_root_6_b z p0 rec v2 v1 g).bind K) := by
  unfold f_X7_root_6_b
  refine j_iload_n (pc := 6) 0 dX7_root_6 rfl rfl ?_
  refine j_if_le (pc := 7) (tgt := 32) dX7_root_7 (by decide) bi (fun hc => ?_) (fun hc => ?_)
  · exact he v2 v1 g
  · refine j_iload_n (pc := 10) 1 dX7_root_10 rfl rfl ?_
    refine j_iload_n (pc := 11) 0 dX7_root_11 rfl rfl ?_
    refine j_iadd (pc := 12) dX7_root_12 ?_
    refine j_iload_n (pc := 13) 1 dX7_root_13 rfl rfl ?_
    refine j_iload_n (pc := 14) 0 dX7_root_14 rfl rfl ?_
    refine j_iadd (pc := 15) dX7_root_15 ?_
    refine j_imul (pc := 16) dX7_root_16 ?_
    refine j_iload_n (pc := 17) 2 dX7_root_17 rfl rfl ?_
    refine J.eq bb ?_
    refine J.jn (σ := Int32) (fun q1 pr => J yX7_root cX7_root 3 (some .int) 0 0 X g 25 [(2, sI v2), (1, sI q1), (0, sI p0)] [] pr) (fun K25 hK25 => ?_) (fun q1 => ?_)
    · refine j_icmp_gt (pc := 18) (tgt := 25) dX7_root_18 (by decide) bi (fun hc => ?_) (fun hc => ?_)
      · exact hK25 (v1)
      · refine j_iload_n (pc := 21) 1 dX7_root_21 rfl rfl ?_
        refine j_iload_n (pc := 22) 0 dX7_root_22 rfl rfl ?_
        refine j_iadd (pc := 23) dX7_root_23 ?_
        refine j_istore_n (pc := 24) (lv' := [(1, sI (v1 + v2)), (2, sI v2), (0, sI p0)]) dX7_root_24 rfl (by decide) rfl ?_
        refine J.sub [1, 0, 2] rfl ?_
        exact hK25 ((v1 + v2))
    · refine j_iload_n (pc := 25) 0 dX7_root_25 rfl rfl ?_
      refine j_iconst (pc := 26) (v := 2) dX7_root_26 (by decide) ?_
      refine b_idiv (pc := 27) dX7_root_27 bb (fun x2 => ?_)
      refine j_istore_n (pc := 28) (lv' := [(2, sI x2), (1, sI q1), (0, sI p0)]) dX7_root_28 rfl (by decide) rfl ?_
      refine j_goto (pc := 29) (tgt := 6) dX7_root_29 (by decide) ?_
      exact hr x2 q1 g
set_option maxRecDepth 20000 in
theorem l_X7_root_6 {X : Xt Int32} (hX : IsM rtI X) (z : Nat) (p0 : Int32) (K : Int32 × Int32 × Hp → Option (Int32 × Hp)) (he : ∀ (v2 : Int32) (v1 : Int32) (g : Hp), J yX7_root cX7_root 3 (some .int) 0 0 X g 32 [(2, sI v2), (1, sI v1), (0, sI p0)] [] (K (v2, v1, g))) : ∀ (n : Nat) (v2 : Int32) (v1 : Int32) (g : Hp), J yX7_root cX7_root 3 (some .int) 0 0 X g 6 [(2, sI v2), (1, sI v1), (0, sI p0)] [] ((f_X7_root_6_L z p0 n v2 v1 g).bind K)
  | 0, _, _, _ => J.eq rfl J.none
  | n + 1, v2, v1, g => b_X7_root_6 hX z p0 _ K he (fun v2 v1 g => l_X7_root_6 hX z p0 K he n v2 v1 g) v2 v1 g
set_option maxRecDepth 20000 in
theorem m_X7_root (z : Nat) (a0 : Int32) (g : Hp) : FM yX7_root cX7_root 3 (some .int) 0 0 rtI [sI a0] g (f_X7_root z a0 g) := by
  refine FM.entry (by decide +kernel) (Nat.le_of_ble_eq_true rfl) (fun X hX => ?_)
  unfold f_X7_root
  show J yX7_root cX7_root 3 (some .int) 0 0 X g 0 [(0, sI a0)] [] _
  refine j_iconst (pc := 0) (v := 0) dX7_root_0 (by decide) ?_
  refine j_istore_n (pc := 1) (lv' := [(1, sI 0), (0, sI a0)]) dX7_root_1 rfl (by decide) rfl ?_
  refine j_sipush (pc := 2) (v := 256) dX7_root_2 (by decide) ?_
  refine j_istore_n (pc := 5) (lv' := [(2, sI 256), (1, sI 0), (0, sI a0)]) dX7_root_5 rfl (by decide) rfl ?_
  refine l_X7_root_6 hX z a0 _ (fun q3_0 q3_1 q3_g => ?_) z 256 0 g
  refine j_iload_n (pc := 32) 1 dX7_root_32 rfl rfl ?_
  exact j_ireturn dX7_root_33 hX rfl rfl
/-! X7_reckon -/
noncomputable def f_X7_reckon_2_b (z : Nat) (p0 : Option Nm) (p1 : Int32) (rec : Int32 → Hp → Option (Int32 × Hp)) (v2 : Int32) (g : Hp) : Option (Int32 × Hp) :=
  if 144 ≤ v2 then (some (v2, g))
  else ((dvI v2 12).bind fun x1 =>
    (rmI v2 12).bind fun x2 =>
    (getR p0 8 0 g).bind fun x3 =>
    (f_X7_root z (p1 * ((x1 * x1) + (x2 * x2))) g).bind fun q4 =>
    (astI x3 v2 q4.1 q4.2).bind fun g5 =>
    rec (v2 + 1) g5)
noncomputable def f_X7_reckon_2_L (z : Nat) (p0 : Option Nm) (p1 : Int32) : Nat → Int32 → Hp → Option (Int32 × Hp)
  | 0, _, _ => none
  | n + 1, v2, g => f_X7_reckon_2_b z p0 p1 (f_X7_reckon_2_L z p0 p1 n) v2 g
noncomputable def f_X7_reckon (z : Nat) (t : Option Nm) (a0 : Int32) (g : Hp) : Option (Unit × Hp) :=
  (f_X7_reckon_2_L z t a0 z 0 g).bind fun q6 =>
  some ((), q6.2)
set_option maxRecDepth 20000 in
theorem b_X7_reckon_2 {X : Xt Unit} (hX : IsM rtV X) (z : Nat) (p0 : Option Nm) (p1 : Int32) (rec : Int32 → Hp → Option (Int32 × Hp)) (K : Int32 × Hp → Option (Unit × Hp)) (he : ∀ (v2 : Int32) (g : Hp), J yX7_reckon cX7_reckon 5 none 1 22 X g 46 [(2, sI v2), (0, sR p0), (1, sI p1)] [] (K (v2, g))) (hr : ∀ (v2 : Int32) (g : Hp), J yX7_reckon cX7_reckon 5 none 1 22 X g 2 [(2, sI v2), (0, sR p0), (1, sI p1)] [] ((rec v2 g).bind K)) (v2 : Int32) (g : Hp) : J yX7_reckon cX7_reckon 5 none 1 22 X g 2 [(2, sI v2), (0, sR p0), (1, sI p1)] [] ((f_X7_reckon_2_b z p0 p1 rec v2 g).bind K) := by
  unfold f_X7_reckon_2_b
  refine j_iload_n (pc := 2) 0 dX7_reckon_2 rfl rfl ?_
  refine j_sipush (pc := 3) (v := 144) dX7_reckon_3 (by decide) ?_
  refine j_icmp_ge (pc := 6) (tgt := 46) dX7_reckon_6 (by decide) bi (fun hc => ?_) (fun hc => ?_)
  · exact he v2 g
  · refine j_iload_n (pc := 9) 0 dX7_reckon_9 rfl rfl ?_
    refine j_bipush (pc := 10) (v := 12) dX7_reckon_10 (by decide) ?_
    refine b_idiv (pc := 12) dX7_reckon_12 bb (fun x1 => ?_)
    refine j_istore_n (pc := 13) (lv' := [(3, sI x1), (2, sI v2), (0, sR p0), (1, sI p1)]) dX7_reckon_13 rfl (by decide) rfl ?_
    refine j_iload_n (pc := 14) 1 dX7_reckon_14 rfl rfl ?_
    refine j_bipush (pc := 15) (v := 12) dX7_reckon_15 (by decide) ?_
    refine b_irem (pc := 17) dX7_reckon_17 bb (fun x2 => ?_)
    refine j_istore (pc := 18) (lv' := [(4, sI x2), (3, sI x1), (2, sI v2), (0, sR p0), (1, sI p1)]) dX7_reckon_18 (by decide) rfl ?_
    refine j_aload_n (pc := 20) 3 dX7_reckon_20 rfl rfl ?_
    refine j_getR (pc := 21) (own := RX7) dX7_reckon_21 lf_X7_9 rfl bb (fun x3 => ?_)
    refine j_iload_n (pc := 24) 2 dX7_reckon_24 rfl rfl ?_
    refine j_iload_n (pc := 25) 4 dX7_reckon_25 rfl rfl ?_
    refine j_iload_n (pc := 26) 1 dX7_reckon_26 rfl rfl ?_
    refine j_iload_n (pc := 27) 1 dX7_reckon_27 rfl rfl ?_
    refine j_imul (pc := 28) dX7_reckon_28 ?_
    refine j_iload (pc := 29) 0 dX7_reckon_29 rfl ?_
    refine j_iload (pc := 31) 0 dX7_reckon_31 rfl ?_
    refine j_imul (pc := 33) dX7_reckon_33 ?_
    refine j_iadd (pc := 34) dX7_reckon_34 ?_
    refine j_imul (pc := 35) dX7_reckon_35 ?_
    refine j_callS (pc := 36) (own := RX7) [sI (p1 * ((x1 * x1) + (x2 * x2)))] [sI v2, sR x3] dX7_reckon_36 lc_X7_19 ls_X7_root rfl (m_X7_root z (p1 * ((x1 * x1) + (x2 * x2))) g) ⟨⟨Nat.le_of_ble_eq_true rfl, Nat.le_of_ble_eq_true rfl⟩, Nat.le_of_ble_eq_true rfl⟩ rfl bb (fun q4r q4g => ?_)
    refine j_astI (pc := 39) dX7_reckon_39 bb (fun g5 => ?_)
    refine j_iinc (pc := 40) (v := (v2 + 1)) (lv' := [(2, sI (v2 + 1)), (4, sI x2), (3, sI x1), (0, sR p0), (1, sI p1)]) 2 dX7_reckon_40 rfl rfl (by decide) rfl ?_
    refine j_goto (pc := 43) (tgt := 2) dX7_reckon_43 (by decide) ?_
    refine J.sub [0, 3, 4] rfl ?_
    exact hr (v2 + 1) g5
set_option maxRecDepth 20000 in
theorem l_X7_reckon_2 {X : Xt Unit} (hX : IsM rtV X) (z : Nat) (p0 : Option Nm) (p1 : Int32) (K : Int32 × Hp → Option (Unit × Hp)) (he : ∀ (v2 : Int32) (g : Hp), J yX7_reckon cX7_reckon 5 none 1 22 X g 46 [(2, sI v2), (0, sR p0), (1, sI p1)] [] (K (v2, g))) : ∀ (n : Nat) (v2 : Int32) (g : Hp), J yX7_reckon cX7_reckon 5 none 1 22 X g 2 [(2, sI v2), (0, sR p0), (1, sI p1)] [] ((f_X7_reckon_2_L z p0 p1 n v2 g).bind K)
  | 0, _, _ => J.eq rfl J.none
  | n + 1, v2, g => b_X7_reckon_2 hX z p0 p1 _ K he (fun v2 g => l_X7_reckon_2 hX z p0 p1 K he n v2 g) v2 g
set_option maxRecDepth 20000 in
theorem m_X7_reckon (z : Nat) (t : Option Nm) (a0 : Int32) (g : Hp) : FM yX7_reckon cX7_reckon 5 none 1 22 rtV [sR t, sI a0] g (f_X7_reckon z t a0 g) := by
  refine FM.entry (by decide +kernel) (Nat.le_of_ble_eq_true rfl) (fun X hX => ?_)
  unfold f_X7_reckon
  show J yX7_reckon cX7_reckon 5 none 1 22 X g 0 [(0, sR t), (1, sI a0)] [] _
  refine j_iconst (pc := 0) (v := 0) dX7_reckon_0 (by decide) ?_
  refine j_istore_n (pc := 1) (lv' := [(2, sI 0), (0, sR t), (1, sI a0)]) dX7_reckon_1 rfl (by decide) rfl ?_
  refine l_X7_reckon_2 hX z t a0 _ (fun q6_0 q6_g => ?_) z 0 g
  exact j_return dX7_reckon_46 hX rfl rfl
/-! X7_init -/
noncomputable def f_X7_init (z : Nat) (t : Option Nm) (a0 : Int32) (g : Hp) : Option (Unit × Hp) :=
  (nnu t).bind fun _ =>
  (mkI (20, nix t) 144 g).bind fun q1 =>
  (putR t 8 0 q1.1 q1.2).bind fun g2 =>
  (ick t 8 (f_X7_reckon z t a0 g2)).bind fun q3 =>
  some ((), q3.2)
set_option maxRecDepth 20000 in
theorem m_X7_init (z : Nat) (t : Option Nm) (a0 : Int32) (g : Hp) : FM yX7_init cX7_init 2 none 2 46 rtV [sR t, sI a0] g (f_X7_init z t a0 g) := by
  refine FM.entry (by decide +kernel) (Nat.le_of_ble_eq_true rfl) (fun X hX => ?_)
  unfold f_X7_init
  show J yX7_init cX7_init 2 none 2 46 X g 0 [(0, sR t), (1, sI a0)] [] _
  refine j_aload_n (pc := 0) 0 dX7_init_0 rfl rfl ?_
  refine b_oinit (pc := 1) (own := RX7) dX7_init_1 lo_X7_3 rfl ⟨Nat.le_of_ble_eq_true rfl, Nat.le_of_ble_eq_true rfl⟩ rfl ?_
  refine j_aload_n (pc := 4) 0 dX7_init_4 rfl rfl ?_
  refine j_sipush (pc := 5) (v := 144) dX7_init_5 (by decide) ?_
  refine j_mkI (pc := 8) dX7_init_8 lA_int rfl (fun q1r q1g => ?_)
  refine j_putR (pc := 10) (own := RX7) dX7_init_10 lf_X7_9 lt_8_0 rfl lw_X7_9_X7_init rfl rfl (fun g2 => ?_)
  refine j_aload_n (pc := 13) 0 dX7_init_13 rfl rfl ?_
  refine j_iload_n (pc := 14) 1 dX7_init_14 rfl rfl ?_
  refine j_callV (pc := 15) (own := RX7) [sI a0] [] dX7_init_15 lc_X7_15 lv_X7_reckon rfl (m_X7_reckon z t a0 g2) ⟨⟨Nat.le_of_ble_eq_true rfl, Nat.le_of_ble_eq_true rfl⟩, Nat.le_of_ble_eq_true rfl⟩ rfl rfl (fun q3r q3g => ?_)
  exact j_return dX7_init_18 hX rfl rfl
/-! X7_between -/
noncomputable def f_X7_between (z : Nat) (t : Option Nm) (a0 : Int32) (a1 : Int32) (g : Hp) : Option (Int32 × Hp) :=
  (dvI a0 12).bind fun x1 =>
  (dvI a1 12).bind fun x2 =>
  (rmI a0 12).bind fun x3 =>
  (rmI a1 12).bind fun x4 =>
  (getR t 8 0 g).bind fun x5 =>
  (aldI x5 ((12 * (iabs (x1 - x2))) + (iabs (x3 - x4))) g).bind fun x6 =>
  some (x6, g)
set_option maxRecDepth 20000 in
theorem m_X7_between (z : Nat) (t : Option Nm) (a0 : Int32) (a1 : Int32) (g : Hp) : FM yX7_between cX7_between 5 (some .int) 1 13 rtI [sR t, sI a0, sI a1] g (f_X7_between z t a0 a1 g) := by
  refine FM.entry (by decide +kernel) (Nat.le_of_ble_eq_true rfl) (fun X hX => ?_)
  unfold f_X7_between
  show J yX7_between cX7_between 5 (some .int) 1 13 X g 0 [(0, sR t), (1, sI a0), (2, sI a1)] [] _
  refine j_iload_n (pc := 0) 1 dX7_between_0 rfl rfl ?_
  refine j_bipush (pc := 1) (v := 12) dX7_between_1 (by decide) ?_
  refine b_idiv (pc := 3) dX7_between_3 rfl (fun x1 => ?_)
  refine j_iload_n (pc := 4) 2 dX7_between_4 rfl rfl ?_
  refine j_bipush (pc := 5) (v := 12) dX7_between_5 (by decide) ?_
  refine b_idiv (pc := 7) dX7_between_7 rfl (fun x2 => ?_)
  refine j_isub (pc := 8) dX7_between_8 ?_
  refine j_abs (pc := 9) (own := RX7) dX7_between_9 lM_X7_23 rfl ⟨Nat.le_of_ble_eq_true rfl, Nat.le_of_ble_eq_true rfl⟩ ?_
  refine j_istore_n (pc := 12) (lv' := [(3, sI (iabs (x1 - x2))), (0, sR t), (1, sI a0), (2, sI a1)]) dX7_between_12 rfl (by decide) rfl ?_
  refine j_iload_n (pc := 13) 2 dX7_between_13 rfl rfl ?_
  refine j_bipush (pc := 14) (v := 12) dX7_between_14 (by decide) ?_
  refine b_irem (pc := 16) dX7_between_16 rfl (fun x3 => ?_)
  refine j_iload_n (pc := 17) 3 dX7_between_17 rfl rfl ?_
  refine j_bipush (pc := 18) (v := 12) dX7_between_18 (by decide) ?_
  refine b_irem (pc := 20) dX7_between_20 rfl (fun x4 => ?_)
  refine j_isub (pc := 21) dX7_between_21 ?_
  refine j_abs (pc := 22) (own := RX7) dX7_between_22 lM_X7_23 rfl ⟨Nat.le_of_ble_eq_true rfl, Nat.le_of_ble_eq_true rfl⟩ ?_
  refine j_istore (pc := 25) (lv' := [(4, sI (iabs (x3 - x4))), (3, sI (iabs (x1 - x2))), (0, sR t), (1, sI a0), (2, sI a1)]) dX7_between_25 (by decide) rfl ?_
  refine j_aload_n (pc := 27) 2 dX7_between_27 rfl rfl ?_
  refine j_getR (pc := 28) (own := RX7) dX7_between_28 lf_X7_9 rfl rfl (fun x5 => ?_)
  refine j_bipush (pc := 31) (v := 12) dX7_between_31 (by decide) ?_
  refine j_iload_n (pc := 33) 1 dX7_between_33 rfl rfl ?_
  refine j_imul (pc := 34) dX7_between_34 ?_
  refine j_iload (pc := 35) 0 dX7_between_35 rfl ?_
  refine j_iadd (pc := 37) dX7_between_37 ?_
  refine j_aldI (pc := 38) dX7_between_38 rfl (fun x6 => ?_)
  exact j_ireturn dX7_between_39 hX rfl rfl
/-! X4_init -/
noncomputable def f_X4_init (z : Nat) (t : Option Nm) (g : Hp) : Option (Unit × Hp) :=
  (nnu t).bind fun _ =>
  (mkI (25, nix t) 30 g).bind fun q1 =>
  (putR t 5 0 q1.1 q1.2).bind fun g2 =>
  (putI t 5 1 (-1) g2).bind fun g3 =>
  some ((), g3)
set_option maxRecDepth 20000 in
theorem m_X4_init (z : Nat) (t : Option Nm) (g : Hp) : FM yX4_init cX4_init 1 none 1 12 rtV [sR t] g (f_X4_init z t g) := by
  refine FM.entry (by decide +kernel) (Nat.le_of_ble_eq_true rfl) (fun X hX => ?_)
  unfold f_X4_init
  show J yX4_init cX4_init 1 none 1 12 X g 0 [(0, sR t)] [] _
  refine j_aload_n (pc := 0) 0 dX4_init_0 rfl rfl ?_
  refine b_oinit (pc := 1) (own := RX4) dX4_init_1 lo_X4_3 rfl ⟨Nat.le_of_ble_eq_true rfl, Nat.le_of_ble_eq_true rfl⟩ rfl ?_
  refine j_aload_n (pc := 4) 0 dX4_init_4 rfl rfl ?_
  refine j_bipush (pc := 5) (v := 30) dX4_init_5 (by decide) ?_
  refine j_mkI (pc := 7) dX4_init_7 lA_int rfl (fun q1r q1g => ?_)
  refine j_putR (pc := 9) (own := RX4) dX4_init_9 lf_X4_9 lt_5_0 rfl lw_X4_9_X4_init rfl rfl (fun g2 => ?_)
  refine j_aload_n (pc := 12) 0 dX4_init_12 rfl rfl ?_
  refine j_iconst (pc := 13) (v := (-1)) dX4_init_13 (by decide) ?_
  refine j_putI (pc := 14) (own := RX4) dX4_init_14 lf_X4_15 lt_5_1 lw_X4_15_X4_init rfl rfl (fun g3 => ?_)
  exact j_return dX4_init_17 hX rfl rfl
/-! X5_init -/
noncomputable def f_X5_init (z : Nat) (t : Option Nm) (a0 : Int32) (g : Hp) : Option (Unit × Hp) :=
  (nnu t).bind fun _ =>
  (mkO (5, nix t) 5 g).bind fun q1 =>
  (nnl q1.1 (f_X4_init z q1.1 q1.2)).bind fun q2 =>
  (putR t 6 1 q1.1 q2.2).bind fun g3 =>
  (putI t 6 0 a0 g3).bind fun g4 =>
  some ((), g4)
set_option maxRecDepth 20000 in
theorem m_X5_init (z : Nat) (t : Option Nm) (a0 : Int32) (g : Hp) : FM yX5_init cX5_init 2 none 2 32 rtV [sR t, sI a0] g (f_X5_init z t a0 g) := by
  refine FM.entry (by decide +kernel) (Nat.le_of_ble_eq_true rfl) (fun X hX => ?_)
  unfold f_X5_init
  show J yX5_init cX5_init 2 none 2 32 X g 0 [(0, sR t), (1, sI a0)] [] _
  refine j_aload_n (pc := 0) 0 dX5_init_0 rfl rfl ?_
  refine b_oinit (pc := 1) (own := RX5) dX5_init_1 lo_X5_1 rfl ⟨Nat.le_of_ble_eq_true rfl, Nat.le_of_ble_eq_true rfl⟩ rfl ?_
  refine j_aload_n (pc := 4) 0 dX5_init_4 rfl rfl ?_
  refine j_mkO (pc := 5) (own := RX5) dX5_init_5 ln_X5_7 rfl rfl (fun q1r q1g => ?_)
  refine j_dup (pc := 8) dX5_init_8 rfl ?_
  refine j_callI (pc := 9) (own := RX5) [] [sR q1r, sR t] dX5_init_9 lc_X5_9 li_X4_init rfl (m_X4_init z q1r q1g) ⟨⟨Nat.le_of_ble_eq_true rfl, Nat.le_of_ble_eq_true rfl⟩, Nat.le_of_ble_eq_true rfl⟩ rfl rfl (fun q2r q2g => ?_)
  refine j_putR (pc := 12) (own := RX5) dX5_init_12 lf_X5_10 lt_6_1 rfl lw_X5_10_X5_init rfl rfl (fun g3 => ?_)
  refine j_aload_n (pc := 15) 0 dX5_init_15 rfl rfl ?_
  refine j_iload_n (pc := 16) 1 dX5_init_16 rfl rfl ?_
  refine j_putI (pc := 17) (own := RX5) dX5_init_17 lf_X5_16 lt_6_0 lw_X5_16_X5_init rfl rfl (fun g4 => ?_)
  exact j_return dX5_init_20 hX rfl rfl
/-! X6_init -/
noncomputable def f_X6_init (z : Nat) (t : Option Nm) (a0 : Int32) (g : Hp) : Option (Unit × Hp) :=
  (nnu t).bind fun _ =>
  (putI t 7 0 a0 g).bind fun g1 =>
  some ((), g1)
set_option maxRecDepth 20000 in
theorem m_X6_init (z : Nat) (t : Option Nm) (a0 : Int32) (g : Hp) : FM yX6_init cX6_init 2 none 1 12 rtV [sR t, sI a0] g (f_X6_init z t a0 g) := by
  refine FM.entry (by decide +kernel) (Nat.le_of_ble_eq_true rfl) (fun X hX => ?_)
  unfold f_X6_init
  show J yX6_init cX6_init 2 none 1 12 X g 0 [(0, sR t), (1, sI a0)] [] _
  refine j_aload_n (pc := 0) 0 dX6_init_0 rfl rfl ?_
  refine b_oinit (pc := 1) (own := RX6) dX6_init_1 lo_X6_1 rfl ⟨Nat.le_of_ble_eq_true rfl, Nat.le_of_ble_eq_true rfl⟩ rfl ?_
  refine j_aload_n (pc := 4) 0 dX6_init_4 rfl rfl ?_
  refine j_iload_n (pc := 5) 1 dX6_init_5 rfl rfl ?_
  refine j_putI (pc := 6) (own := RX6) dX6_init_6 lf_X6_7 lt_7_0 lw_X6_7_X6_init rfl rfl (fun g1 => ?_)
  exact j_return dX6_init_9 hX rfl rfl
/-! X2_init -/
noncomputable def f_X2_init (z : Nat) (t : Option Nm) (a0 : Int32) (a1 : Int32) (a2 : Int32) (a3 : Int32) (a4 : Int32) (g : Hp) : Option (Unit × Hp) :=
  (nnu t).bind fun _ =>
  (putI t 3 0 a0 g).bind fun g1 =>
  (putI t 3 1 a1 g1).bind fun g2 =>
  (putI t 3 2 a2 g2).bind fun g3 =>
  (putI t 3 3 a3 g3).bind fun g4 =>
  (putI t 3 4 a4 g4).bind fun g5 =>
  some ((), g5)
set_option maxRecDepth 20000 in
theorem m_X2_init (z : Nat) (t : Option Nm) (a0 : Int32) (a1 : Int32) (a2 : Int32) (a3 : Int32) (a4 : Int32) (g : Hp) : FM yX2_init cX2_init 6 none 1 12 rtV [sR t, sI a0, sI a1, sI a2, sI a3, sI a4] g (f_X2_init z t a0 a1 a2 a3 a4 g) := by
  refine FM.entry (by decide +kernel) (Nat.le_of_ble_eq_true rfl) (fun X hX => ?_)
  unfold f_X2_init
  show J yX2_init cX2_init 6 none 1 12 X g 0 [(0, sR t), (1, sI a0), (2, sI a1), (3, sI a2), (4, sI a3), (5, sI a4)] [] _
  refine j_aload_n (pc := 0) 0 dX2_init_0 rfl rfl ?_
  refine b_oinit (pc := 1) (own := RX2) dX2_init_1 lo_X2_3 rfl ⟨Nat.le_of_ble_eq_true rfl, Nat.le_of_ble_eq_true rfl⟩ rfl ?_
  refine j_aload_n (pc := 4) 0 dX2_init_4 rfl rfl ?_
  refine j_iload_n (pc := 5) 1 dX2_init_5 rfl rfl ?_
  refine j_putI (pc := 6) (own := RX2) dX2_init_6 lf_X2_9 lt_3_0 lw_X2_9_X2_init rfl rfl (fun g1 => ?_)
  refine j_aload_n (pc := 9) 0 dX2_init_9 rfl rfl ?_
  refine j_iload_n (pc := 10) 2 dX2_init_10 rfl rfl ?_
  refine j_putI (pc := 11) (own := RX2) dX2_init_11 lf_X2_15 lt_3_1 lw_X2_15_X2_init rfl rfl (fun g2 => ?_)
  refine j_aload_n (pc := 14) 0 dX2_init_14 rfl rfl ?_
  refine j_iload_n (pc := 15) 3 dX2_init_15 rfl rfl ?_
  refine j_putI (pc := 16) (own := RX2) dX2_init_16 lf_X2_18 lt_3_2 lw_X2_18_X2_init rfl rfl (fun g3 => ?_)
  refine j_aload_n (pc := 19) 0 dX2_init_19 rfl rfl ?_
  refine j_iload (pc := 20) 4 dX2_init_20 rfl ?_
  refine j_putI (pc := 22) (own := RX2) dX2_init_22 lf_X2_21 lt_3_3 lw_X2_21_X2_init rfl rfl (fun g4 => ?_)
  refine j_aload_n (pc := 25) 0 dX2_init_25 rfl rfl ?_
  refine j_iload (pc := 26) 5 dX2_init_26 rfl ?_
  refine j_putI (pc := 28) (own := RX2) dX2_init_28 lf_X2_24 lt_3_4 lw_X2_24_X2_init rfl rfl (fun g5 => ?_)
  exact j_return dX2_init_31 hX rfl rfl
/-! X3_hear -/
noncomputable def f_X3_hear (z : Nat) (t : Option Nm) (a0 : Int32) (a1 : Int32) (g : Hp) : Option (Unit × Hp) :=
  (getR t 4 2 g).bind fun x1 =>
  (astI x1 a0 a1 g).bind fun g2 =>
  (getI t 4 3 g2).bind fun x3 =>
  (putI t 4 3 (x3 + 1) g2).bind fun g4 =>
  some ((), g4)
set_option maxRecDepth 20000 in
theorem m_X3_hear (z : Nat) (t : Option Nm) (a0 : Int32) (a1 : Int32) (g : Hp) : FM yX3_hear cX3_hear 3 none 0 0 rtV [sR t, sI a0, sI a1] g (f_X3_hear z t a0 a1 g) := by
  refine FM.entry (by decide +kernel) (Nat.le_of_ble_eq_true rfl) (fun X hX => ?_)
  unfold f_X3_hear
  show J yX3_hear cX3_hear 3 none 0 0 X g 0 [(0, sR t), (1, sI a0), (2, sI a1)] [] _
  refine j_aload_n (pc := 0) 0 dX3_hear_0 rfl rfl ?_
  refine j_getR (pc := 1) (own := RX3) dX3_hear_1 lf_X3_9 rfl rfl (fun x1 => ?_)
  refine j_iload_n (pc := 4) 1 dX3_hear_4 rfl rfl ?_
  refine j_iload_n (pc := 5) 2 dX3_hear_5 rfl rfl ?_
  refine j_astI (pc := 6) dX3_hear_6 rfl (fun g2 => ?_)
  refine j_aload_n (pc := 7) 0 dX3_hear_7 rfl rfl ?_
  refine j_dup (pc := 8) dX3_hear_8 rfl ?_
  refine j_getI (pc := 9) (own := RX3) dX3_hear_9 lf_X3_32 rfl rfl (fun x3 => ?_)
  refine j_iconst (pc := 12) (v := 1) dX3_hear_12 (by decide) ?_
  refine j_iadd (pc := 13) dX3_hear_13 ?_
  refine j_putI (pc := 14) (own := RX3) dX3_hear_14 lf_X3_32 lt_4_3 lw_X3_32_X3_hear rfl rfl (fun g4 => ?_)
  exact j_return dX3_hear_17 hX rfl rfl
/-! X3_init -/
noncomputable def f_X3_init_41_b (z : Nat) (p0 : Option Nm) (p1 : Int32) (p2 : Int32) (p3 : Int32) (rec : Int32 → Hp → Option (Int32 × Hp)) (v4 : Int32) (g : Hp) : Option (Int32 × Hp) :=
  (getR p0 4 2 g).bind fun x9 =>
  (alen x9 g).bind fun x10 =>
  if x10 ≤ v4 then (some (v4, g))
  else ((getR p0 4 2 g).bind fun x11 =>
    (astI x11 v4 (-1) g).bind fun g12 =>
    rec (v4 + 1) g12)
noncomputable def f_X3_init_41_L (z : Nat) (p0 : Option Nm) (p1 : Int32) (p2 : Int32) (p3 : Int32) : Nat → Int32 → Hp → Option (Int32 × Hp)
  | 0, _, _ => none
  | n + 1, v4, g => f_X3_init_41_b z p0 p1 p2 p3 (f_X3_init_41_L z p0 p1 p2 p3 n) v4 g
noncomputable def f_X3_init (z : Nat) (t : Option Nm) (a0 : Int32) (a1 : Int32) (a2 : Int32) (g : Hp) : Option (Unit × Hp) :=
  (nnu t).bind fun _ =>
  (mkI (26, nix t) 10 g).bind fun q1 =>
  (putR t 4 2 q1.1 q1.2).bind fun g2 =>
  (mkI (27, nix t) 6 g2).bind fun q3 =>
  (putR t 4 4 q3.1 q3.2).bind fun g4 =>
  (mkI (28, nix t) 6 g4).bind fun q5 =>
  (putR t 4 5 q5.1 q5.2).bind fun g6 =>
  (putI t 4 0 a0 g6).bind fun g7 =>
  (putI t 4 1 a2 g7).bind fun g8 =>
  (f_X3_init_41_L z t a0 a1 a2 z 0 g8).bind fun q13 =>
  (ick t 4 (f_X3_hear z t a0 a1 q13.2)).bind fun q14 =>
  some ((), q14.2)
set_option maxRecDepth 20000 in
theorem b_X3_init_41 {X : Xt Unit} (hX : IsM rtV X) (z : Nat) (p0 : Option Nm) (p1 : Int32) (p2 : Int32) (p3 : Int32) (rec : Int32 → Hp → Option (Int32 × Hp)) (K : Int32 × Hp → Option (Unit × Hp)) (he : ∀ (v4 : Int32) (g : Hp), J yX3_init cX3_init 5 none 1 22 X g 65 [(4, sI v4), (0, sR p0), (1, sI p1), (2, sI p2), (3, sI p3)] [] (K (v4, g))) (hr : ∀ (v4 : Int32) (g : Hp), J yX3_init cX3_init 5 none 1 22 X g 41 [(4, sI v4), (0, sR p0), (1, sI p1), (2, sI p2), (3, sI p3)] [] ((rec v4 g).bind K)) (v4 : Int32) (g : Hp) : J yX3_init cX3_init 5 none 1 22 X g 41 [(4, sI v4), (0, sR p0), (1, sI p1), (2, sI p2), (3, sI p3)] [] ((f_X3_init_41_b z p0 p1 p2 p3 rec v4 g).bind K) := by
  unfold f_X3_init_41_b
  refine j_iload (pc := 41) 0 dX3_init_41 rfl ?_
  refine j_aload_n (pc := 43) 1 dX3_init_43 rfl rfl ?_
  refine j_getR (pc := 44) (own := RX3) dX3_init_44 lf_X3_9 rfl bb (fun x9 => ?_)
  refine j_alen (pc := 47) dX3_init_47 bb (fun x10 => ?_)
  refine j_icmp_ge (pc := 48) (tgt := 65) dX3_init_48 (by decide) bi (fun hc => ?_) (fun hc => ?_)
  · exact he v4 g
  · refine j_aload_n (pc := 51) 1 dX3_init_51 rfl rfl ?_
    refine j_getR (pc := 52) (own := RX3) dX3_init_52 lf_X3_9 rfl bb (fun x11 => ?_)
    refine j_iload (pc := 55) 0 dX3_init_55 rfl ?_
    refine j_iconst (pc := 57) (v := (-1)) dX3_init_57 (by decide) ?_
    refine j_astI (pc := 58) dX3_init_58 bb (fun g12 => ?_)
    refine j_iinc (pc := 59) (v := (v4 + 1)) (lv' := [(4, sI (v4 + 1)), (0, sR p0), (1, sI p1), (2, sI p2), (3, sI p3)]) 0 dX3_init_59 rfl rfl (by decide) rfl ?_
    refine j_goto (pc := 62) (tgt := 41) dX3_init_62 (by decide) ?_
    exact hr (v4 + 1) g12
set_option maxRecDepth 20000 in
theorem l_X3_init_41 {X : Xt Unit} (hX : IsM rtV X) (z : Nat) (p0 : Option Nm) (p1 : Int32) (p2 : Int32) (p3 : Int32) (K : Int32 × Hp → Option (Unit × Hp)) (he : ∀ (v4 : Int32) (g : Hp), J yX3_init cX3_init 5 none 1 22 X g 65 [(4, sI v4), (0, sR p0), (1, sI p1), (2, sI p2), (3, sI p3)] [] (K (v4, g))) : ∀ (n : Nat) (v4 : Int32) (g : Hp), J yX3_init cX3_init 5 none 1 22 X g 41 [(4, sI v4), (0, sR p0), (1, sI p1), (2, sI p2), (3, sI p3)] [] ((f_X3_init_41_L z p0 p1 p2 p3 n v4 g).bind K)
  | 0, _, _ => J.eq rfl J.none
  | n + 1, v4, g => b_X3_init_41 hX z p0 p1 p2 p3 _ K he (fun v4 g => l_X3_init_41 hX z p0 p1 p2 p3 K he n v4 g) v4 g
set_option maxRecDepth 20000 in
theorem m_X3_init (z : Nat) (t : Option Nm) (a0 : Int32) (a1 : Int32) (a2 : Int32) (g : Hp) : FM yX3_init cX3_init 5 none 1 22 rtV [sR t, sI a0, sI a1, sI a2] g (f_X3_init z t a0 a1 a2 g) := by
  refine FM.entry (by decide +kernel) (Nat.le_of_ble_eq_true rfl) (fun X hX => ?_)
  unfold f_X3_init
  show J yX3_init cX3_init 5 none 1 22 X g 0 [(0, sR t), (1, sI a0), (2, sI a1), (3, sI a2)] [] _
  refine j_aload_n (pc := 0) 0 dX3_init_0 rfl rfl ?_
  refine b_oinit (pc := 1) (own := RX3) dX3_init_1 lo_X3_3 rfl ⟨Nat.le_of_ble_eq_true rfl, Nat.le_of_ble_eq_true rfl⟩ rfl ?_
  refine j_aload_n (pc := 4) 0 dX3_init_4 rfl rfl ?_
  refine j_bipush (pc := 5) (v := 10) dX3_init_5 (by decide) ?_
  refine j_mkI (pc := 7) dX3_init_7 lA_int rfl (fun q1r q1g => ?_)
  refine j_putR (pc := 9) (own := RX3) dX3_init_9 lf_X3_9 lt_4_2 rfl lw_X3_9_X3_init rfl rfl (fun g2 => ?_)
  refine j_aload_n (pc := 12) 0 dX3_init_12 rfl rfl ?_
  refine j_bipush (pc := 13) (v := 6) dX3_init_13 (by decide) ?_
  refine j_mkI (pc := 15) dX3_init_15 lA_int rfl (fun q3r q3g => ?_)
  refine j_putR (pc := 17) (own := RX3) dX3_init_17 lf_X3_15 lt_4_4 rfl lw_X3_15_X3_init rfl rfl (fun g4 => ?_)
  refine j_aload_n (pc := 20) 0 dX3_init_20 rfl rfl ?_
  refine j_bipush (pc := 21) (v := 6) dX3_init_21 (by decide) ?_
  refine j_mkI (pc := 23) dX3_init_23 lA_int rfl (fun q5r q5g => ?_)
  refine j_putR (pc := 25) (own := RX3) dX3_init_25 lf_X3_18 lt_4_5 rfl lw_X3_18_X3_init rfl rfl (fun g6 => ?_)
  refine j_aload_n (pc := 28) 0 dX3_init_28 rfl rfl ?_
  refine j_iload_n (pc := 29) 1 dX3_init_29 rfl rfl ?_
  refine j_putI (pc := 30) (own := RX3) dX3_init_30 lf_X3_21 lt_4_0 lw_X3_21_X3_init rfl rfl (fun g7 => ?_)
  refine j_aload_n (pc := 33) 0 dX3_init_33 rfl rfl ?_
  refine j_iload_n (pc := 34) 3 dX3_init_34 rfl rfl ?_
  refine j_putI (pc := 35) (own := RX3) dX3_init_35 lf_X3_25 lt_4_1 lw_X3_25_X3_init rfl rfl (fun g8 => ?_)
  refine j_iconst (pc := 38) (v := 0) dX3_init_38 (by decide) ?_
  refine j_istore (pc := 39) (lv' := [(4, sI 0), (0, sR t), (1, sI a0), (2, sI a1), (3, sI a2)]) dX3_init_39 (by decide) rfl ?_
  refine l_X3_init_41 hX z t a0 a1 a2 _ (fun q13_0 q13_g => ?_) z 0 g8
  refine j_aload_n (pc := 65) 1 dX3_init_65 rfl rfl ?_
  refine j_iload_n (pc := 66) 2 dX3_init_66 rfl rfl ?_
  refine j_iload_n (pc := 67) 3 dX3_init_67 rfl rfl ?_
  refine j_callV (pc := 68) (own := RX3) [sI a0, sI a1] [] dX3_init_68 lc_X3_28 lv_X3_hear rfl (m_X3_hear z t a0 a1 q13_g) ⟨⟨Nat.le_of_ble_eq_true rfl, Nat.le_of_ble_eq_true rfl⟩, Nat.le_of_ble_eq_true rfl⟩ rfl rfl (fun q14r q14g => ?_)
  exact j_return dX3_init_71 hX rfl rfl
/-! X3_hears -/
noncomputable def f_X3_hears (z : Nat) (t : Option Nm) (a0 : Int32) (g : Hp) : Option (Int32 × Hp) :=
  (getR t 4 2 g).bind fun x1 =>
  (aldI x1 a0 g).bind fun x2 =>
  if x2 = (-1) then (rtZ 0 g)
  else (rtZ 1 g)
set_option maxRecDepth 20000 in
theorem m_X3_hears (z : Nat) (t : Option Nm) (a0 : Int32) (g : Hp) : FM yX3_hears cX3_hears 2 (some .boolean) 0 0 rtI [sR t, sI a0] g (f_X3_hears z t a0 g) := by
  refine FM.entry (by decide +kernel) (Nat.le_of_ble_eq_true rfl) (fun X hX => ?_)
  unfold f_X3_hears
  show J yX3_hears cX3_hears 2 (some .boolean) 0 0 X g 0 [(0, sR t), (1, sI a0)] [] _
  refine j_aload_n (pc := 0) 0 dX3_hears_0 rfl rfl ?_
  refine j_getR (pc := 1) (own := RX3) dX3_hears_1 lf_X3_9 rfl rfl (fun x1 => ?_)
  refine j_iload_n (pc := 4) 1 dX3_hears_4 rfl rfl ?_
  refine j_aldI (pc := 5) dX3_hears_5 rfl (fun x2 => ?_)
  refine j_iconst (pc := 6) (v := (-1)) dX3_hears_6 (by decide) ?_
  refine j_icmp_eq (pc := 7) (tgt := 14) dX3_hears_7 (by decide) rfl (fun hc => ?_) (fun hc => ?_)
  · refine j_iconst (pc := 14) (v := 0) dX3_hears_14 (by decide) ?_
    exact j_zreturn dX3_hears_15 hX rfl rfl
  · refine j_iconst (pc := 10) (v := 1) dX3_hears_10 (by decide) ?_
    refine j_goto (pc := 11) (tgt := 15) dX3_hears_11 (by decide) ?_
    exact j_zreturn dX3_hears_15 hX rfl rfl
/-! X0_init -/
noncomputable def f_X0_init (z : Nat) (t : Option Nm) (g : Hp) : Option (Unit × Hp) :=
  (nnu t).bind fun _ =>
  (mkI (21, nix t) 144 g).bind fun q1 =>
  (putR t 1 0 q1.1 q1.2).bind fun g2 =>
  (mkI (22, nix t) 144 g2).bind fun q3 =>
  (putR t 1 1 q3.1 q3.2).bind fun g4 =>
  (putI t 1 5 (-9) g4).bind fun g5 =>
  some ((), g5)
set_option maxRecDepth 20000 in
theorem m_X0_init (z : Nat) (t : Option Nm) (g : Hp) : FM yX0_init cX0_init 1 none 1 12 rtV [sR t] g (f_X0_init z t g) := by
  refine FM.entry (by decide +kernel) (Nat.le_of_ble_eq_true rfl) (fun X hX => ?_)
  unfold f_X0_init
  show J yX0_init cX0_init 1 none 1 12 X g 0 [(0, sR t)] [] _
  refine j_aload_n (pc := 0) 0 dX0_init_0 rfl rfl ?_
  refine b_oinit (pc := 1) (own := RX0) dX0_init_1 lo_X0_3 rfl ⟨Nat.le_of_ble_eq_true rfl, Nat.le_of_ble_eq_true rfl⟩ rfl ?_
  refine j_aload_n (pc := 4) 0 dX0_init_4 rfl rfl ?_
  refine j_sipush (pc := 5) (v := 144) dX0_init_5 (by decide) ?_
  refine j_mkI (pc := 8) dX0_init_8 lA_int rfl (fun q1r q1g => ?_)
  refine j_putR (pc := 10) (own := RX0) dX0_init_10 lf_X0_9 lt_1_0 rfl lw_X0_9_X0_init rfl rfl (fun g2 => ?_)
  refine j_aload_n (pc := 13) 0 dX0_init_13 rfl rfl ?_
  refine j_sipush (pc := 14) (v := 144) dX0_init_14 (by decide) ?_
  refine j_mkI (pc := 17) dX0_init_17 lA_int rfl (fun q3r q3g => ?_)
  refine j_putR (pc := 19) (own := RX0) dX0_init_19 lf_X0_15 lt_1_1 rfl lw_X0_15_X0_init rfl rfl (fun g4 => ?_)
  refine j_aload_n (pc := 22) 0 dX0_init_22 rfl rfl ?_
  refine j_bipush (pc := 23) (v := (-9)) dX0_init_23 (by decide) ?_
  refine j_putI (pc := 25) (own := RX0) dX0_init_25 lf_X0_18 lt_1_5 lw_X0_18_X0_init rfl rfl (fun g5 => ?_)
  exact j_return dX0_init_28 hX rfl rfl
/-! X0_forget -/
noncomputable def f_X0_forget (z : Nat) (t : Option Nm) (g : Hp) : Option (Unit × Hp) :=
  (putI t 1 5 (-9) g).bind fun g1 =>
  some ((), g1)
set_option maxRecDepth 20000 in
theorem m_X0_forget (z : Nat) (t : Option Nm) (g : Hp) : FM yX0_forget cX0_forget 1 none 0 0 rtV [sR t] g (f_X0_forget z t g) := by
  refine FM.entry (by decide +kernel) (Nat.le_of_ble_eq_true rfl) (fun X hX => ?_)
  unfold f_X0_forget
  show J yX0_forget cX0_forget 1 none 0 0 X g 0 [(0, sR t)] [] _
  refine j_aload_n (pc := 0) 0 dX0_forget_0 rfl rfl ?_
  refine j_bipush (pc := 1) (v := (-9)) dX0_forget_1 (by decide) ?_
  refine j_putI (pc := 3) (own := RX0) dX0_forget_3 lf_X0_18 lt_1_5 lw_X0_18_X0_forget rfl rfl (fun g1 => ?_)
  exact j_return dX0_forget_6 hX rfl rfl
/-! X0_clear -/
noncomputable def f_X0_clear_8_b (z : Nat) (p0 : Option Nm) (rec : Int32 → Hp → Option (Int32 × Hp)) (v1 : Int32) (g : Hp) : Option (Int32 × Hp) :=
  if 144 ≤ v1 then (some (v1, g))
  else ((getR p0 1 0 g).bind fun x2 =>
    (astI x2 v1 (-1000000) g).bind fun g3 =>
    (getR p0 1 1 g3).bind fun x4 =>
    (astI x4 v1 1000000 g3).bind fun g5 =>
    rec (v1 + 1) g5)
noncomputable def f_X0_clear_8_L (z : Nat) (p0 : Option Nm) : Nat → Int32 → Hp → Option (Int32 × Hp)
  | 0, _, _ => none
  | n + 1, v1, g => f_X0_clear_8_b z p0 (f_X0_clear_8_L z p0 n) v1 g
noncomputable def f_X0_clear (z : Nat) (t : Option Nm) (g : Hp) : Option (Unit × Hp) :=
  (putI t 1 5 (-9) g).bind fun g1 =>
  (f_X0_clear_8_L z t z 0 g1).bind fun q6 =>
  some ((), q6.2)
set_option maxRecDepth 20000 in
theorem b_X0_clear_8 {X : Xt Unit} (hX : IsM rtV X) (z : Nat) (p0 : Option Nm) (rec : Int32 → Hp → Option (Int32 × Hp)) (K : Int32 × Hp → Option (Unit × Hp)) (he : ∀ (v1 : Int32) (g : Hp), J yX0_clear cX0_clear 2 none 0 0 X g 37 [(1, sI v1), (0, sR p0)] [] (K (v1, g))) (hr : ∀ (v1 : Int32) (g : Hp), J yX0_clear cX0_clear 2 none 0 0 X g 8 [(1, sI v1), (0, sR p0)] [] ((rec v1 g).bind K)) (v1 : Int32) (g : Hp) : J yX0_clear cX0_clear 2 none 0 0 X g 8 [(1, sI v1), (0, sR p0)] [] ((f_X0_clear_8_b z p0 rec v1 g).bind K) := by
  unfold f_X0_clear_8_b
  refine j_iload_n (pc := 8) 0 dX0_clear_8 rfl rfl ?_
  refine j_sipush (pc := 9) (v := 144) dX0_clear_9 (by decide) ?_
  refine j_icmp_ge (pc := 12) (tgt := 37) dX0_clear_12 (by decide) bi (fun hc => ?_) (fun hc => ?_)
  · exact he v1 g
  · refine j_aload_n (pc := 15) 1 dX0_clear_15 rfl rfl ?_
    refine j_getR (pc := 16) (own := RX0) dX0_clear_16 lf_X0_9 rfl bb (fun x2 => ?_)
    refine j_iload_n (pc := 19) 0 dX0_clear_19 rfl rfl ?_
    refine j_ldc (pc := 20) (own := RX0) (v := (-1000000)) dX0_clear_20 rfl lk_X0_22 ?_
    refine j_astI (pc := 22) dX0_clear_22 bb (fun g3 => ?_)
    refine j_aload_n (pc := 23) 1 dX0_clear_23 rfl rfl ?_
    refine j_getR (pc := 24) (own := RX0) dX0_clear_24 lf_X0_15 rfl bb (fun x4 => ?_)
    refine j_iload_n (pc := 27) 0 dX0_clear_27 rfl rfl ?_
    refine j_ldc (pc := 28) (own := RX0) (v := 1000000) dX0_clear_28 rfl lk_X0_23 ?_
    refine j_astI (pc := 30) dX0_clear_30 bb (fun g5 => ?_)
    refine j_iinc (pc := 31) (v := (v1 + 1)) (lv' := [(1, sI (v1 + 1)), (0, sR p0)]) 0 dX0_clear_31 rfl rfl (by decide) rfl ?_
    refine j_goto (pc := 34) (tgt := 8) dX0_clear_34 (by decide) ?_
    exact hr (v1 + 1) g5
set_option maxRecDepth 20000 in
theorem l_X0_clear_8 {X : Xt Unit} (hX : IsM rtV X) (z : Nat) (p0 : Option Nm) (K : Int32 × Hp → Option (Unit × Hp)) (he : ∀ (v1 : Int32) (g : Hp), J yX0_clear cX0_clear 2 none 0 0 X g 37 [(1, sI v1), (0, sR p0)] [] (K (v1, g))) : ∀ (n : Nat) (v1 : Int32) (g : Hp), J yX0_clear cX0_clear 2 none 0 0 X g 8 [(1, sI v1), (0, sR p0)] [] ((f_X0_clear_8_L z p0 n v1 g).bind K)
  | 0, _, _ => J.eq rfl J.none
  | n + 1, v1, g => b_X0_clear_8 hX z p0 _ K he (fun v1 g => l_X0_clear_8 hX z p0 K he n v1 g) v1 g
set_option maxRecDepth 20000 in
theorem m_X0_clear (z : Nat) (t : Option Nm) (g : Hp) : FM yX0_clear cX0_clear 2 none 0 0 rtV [sR t] g (f_X0_clear z t g) := by
  refine FM.entry (by decide +kernel) (Nat.le_of_ble_eq_true rfl) (fun X hX => ?_)
  unfold f_X0_clear
  show J yX0_clear cX0_clear 2 none 0 0 X g 0 [(0, sR t)] [] _
  refine j_aload_n (pc := 0) 0 dX0_clear_0 rfl rfl ?_
  refine j_bipush (pc := 1) (v := (-9)) dX0_clear_1 (by decide) ?_
  refine j_putI (pc := 3) (own := RX0) dX0_clear_3 lf_X0_18 lt_1_5 lw_X0_18_X0_clear rfl rfl (fun g1 => ?_)
  refine j_iconst (pc := 6) (v := 0) dX0_clear_6 (by decide) ?_
  refine j_istore_n (pc := 7) (lv' := [(1, sI 0), (0, sR t)]) dX0_clear_7 rfl (by decide) rfl ?_
  refine l_X0_clear_8 hX z t _ (fun q6_0 q6_g => ?_) z 0 g1
  exact j_return dX0_clear_37 hX rfl rfl
/-! X0_narrow -/
noncomputable def f_X0_narrow_3_b (z : Nat) (p0 : Option Nm) (p1 : Option Nm) (p2 : Int32) (p3 : Int32) (p4 : Int32) (rec : Int32 → Hp → Option (Int32 × Hp)) (v5 : Int32) (g : Hp) : Option (Int32 × Hp) :=
  if 144 ≤ v5 then (some (v5, g))
  else ((ick p1 8 (f_X7_between z p1 v5 p2 g)).bind fun q1 =>
    (getR p0 1 0 q1.2).bind fun x2 =>
    (getR p0 1 0 q1.2).bind fun x3 =>
    (aldI x3 v5 q1.2).bind fun x4 =>
    (astI x2 v5 (imax x4 (p3 - q1.1)) q1.2).bind fun g5 =>
    (getR p0 1 1 g5).bind fun x6 =>
    (getR p0 1 1 g5).bind fun x7 =>
    (aldI x7 v5 g5).bind fun x8 =>
    (astI x6 v5 (imin x8 (p4 - q1.1)) g5).bind fun g9 =>
    rec (v5 + 1) g9)
noncomputable def f_X0_narrow_3_L (z : Nat) (p0 : Option Nm) (p1 : Option Nm) (p2 : Int32) (p3 : Int32) (p4 : Int32) : Nat → Int32 → Hp → Option (Int32 × Hp)
  | 0, _, _ => none
  | n + 1, v5, g => f_X0_narrow_3_b z p0 p1 p2 p3 p4 (f_X0_narrow_3_L z p0 p1 p2 p3 p4 n) v5 g
noncomputable def f_X0_narrow (z : Nat) (t : Option Nm) (a0 : Option Nm) (a1 : Int32) (a2 : Int32) (a3 : Int32) (g : Hp) : Option (Unit × Hp) :=
  (f_X0_narrow_3_L z t a0 a1 a2 a3 z 0 g).bind fun q10 =>
  some ((), q10.2)
set_option maxRecDepth 20000 in
theorem b_X0_narrow_3 {X : Xt Unit} (hX : IsM rtV X) (z : Nat) (p0 : Option Nm) (p1 : Option Nm) (p2 : Int32) (p3 : Int32) (p4 : Int32) (rec : Int32 → Hp → Option (Int32 × Hp)) (K : Int32 × Hp → Option (Unit × Hp)) (he : ∀ (v5 : Int32) (g : Hp), J yX0_narrow cX0_narrow 7 none 2 37 X g 69 [(5, sI v5), (0, sR p0), (1, sR p1), (2, sI p2), (3, sI p3), (4, sI p4)] [] (K (v5, g))) (hr : ∀ (v5 : Int32) (g : Hp), J yX0_narrow cX0_narrow 7 none 2 37 X g 3 [(5, sI v5), (0, sR p0), (1, sR p1), (2, sI p2), (3, sI p3), (4, sI p4)] [] ((rec v5 g).bind K)) (v5 : Int32) (g : Hp) : J yX0_narrow cX0_narrow 7 none 2 37 X g 3 [(5, sI v5), (0, sR p0), (1, sR p1), (2, sI p2), (3, sI p3), (4, sI p4)] [] ((f_X0_narrow_3_b z p0 p1 p2 p3 p4 rec v5 g).bind K) := by
  unfold f_X0_narrow_3_b
  refine j_iload (pc := 3) 0 dX0_narrow_3 rfl ?_
  refine j_sipush (pc := 5) (v := 144) dX0_narrow_5 (by decide) ?_
  refine j_icmp_ge (pc := 8) (tgt := 69) dX0_narrow_8 (by decide) bi (fun hc => ?_) (fun hc => ?_)
  · exact he v5 g
  · refine j_aload_n (pc := 11) 2 dX0_narrow_11 rfl rfl ?_
    refine j_iload (pc := 12) 0 dX0_narrow_12 rfl ?_
    refine j_iload_n (pc := 14) 3 dX0_narrow_14 rfl rfl ?_
    refine j_callV (pc := 15) (own := RX0) [sI v5, sI p2] [] dX0_narrow_15 lc_X0_24 lv_X7_between rfl (m_X7_between z p1 v5 p2 g) ⟨⟨Nat.le_of_ble_eq_true rfl, Nat.le_of_ble_eq_true rfl⟩, Nat.le_of_ble_eq_true rfl⟩ rfl bb (fun q1r q1g => ?_)
    refine j_istore (pc := 18) (lv' := [(6, sI q1r), (5, sI v5), (0, sR p0), (1, sR p1), (2, sI p2), (3, sI p3), (4, sI p4)]) dX0_narrow_18 (by decide) rfl ?_
    refine j_aload_n (pc := 20) 2 dX0_narrow_20 rfl rfl ?_
    refine j_getR (pc := 21) (own := RX0) dX0_narrow_21 lf_X0_9 rfl bb (fun x2 => ?_)
    refine j_iload (pc := 24) 1 dX0_narrow_24 rfl ?_
    refine j_aload_n (pc := 26) 2 dX0_narrow_26 rfl rfl ?_
    refine j_getR (pc := 27) (own := RX0) dX0_narrow_27 lf_X0_9 rfl bb (fun x3 => ?_)
    refine j_iload (pc := 30) 1 dX0_narrow_30 rfl ?_
    refine j_aldI (pc := 32) dX0_narrow_32 bb (fun x4 => ?_)
    refine j_iload_n (pc := 33) 5 dX0_narrow_33 rfl rfl ?_
    refine j_iload (pc := 34) 0 dX0_narrow_34 rfl ?_
    refine j_isub (pc := 36) dX0_narrow_36 ?_
    refine j_max (pc := 37) (own := RX0) dX0_narrow_37 lM_X0_30 rfl ⟨Nat.le_of_ble_eq_true rfl, Nat.le_of_ble_eq_true rfl⟩ ?_
    refine j_astI (pc := 40) dX0_narrow_40 bb (fun g5 => ?_)
    refine j_aload_n (pc := 41) 2 dX0_narrow_41 rfl rfl ?_
    refine j_getR (pc := 42) (own := RX0) dX0_narrow_42 lf_X0_15 rfl bb (fun x6 => ?_)
    refine j_iload (pc := 45) 1 dX0_narrow_45 rfl ?_
    refine j_aload_n (pc := 47) 2 dX0_narrow_47 rfl rfl ?_
    refine j_getR (pc := 48) (own := RX0) dX0_narrow_48 lf_X0_15 rfl bb (fun x7 => ?_)
    refine j_iload (pc := 51) 1 dX0_narrow_51 rfl ?_
    refine j_aldI (pc := 53) dX0_narrow_53 bb (fun x8 => ?_)
    refine j_iload (pc := 54) 6 dX0_narrow_54 rfl ?_
    refine j_iload (pc := 56) 0 dX0_narrow_56 rfl ?_
    refine j_isub (pc := 58) dX0_narrow_58 ?_
    refine j_min (pc := 59) (own := RX0) dX0_narrow_59 lM_X0_35 rfl ⟨Nat.le_of_ble_eq_true rfl, Nat.le_of_ble_eq_true rfl⟩ ?_
    refine j_astI (pc := 62) dX0_narrow_62 bb (fun g9 => ?_)
    refine j_iinc (pc := 63) (v := (v5 + 1)) (lv' := [(5, sI (v5 + 1)), (6, sI q1r), (0, sR p0), (1, sR p1), (2, sI p2), (3, sI p3), (4, sI p4)]) 1 dX0_narrow_63 rfl rfl (by decide) rfl ?_
    refine j_goto (pc := 66) (tgt := 3) dX0_narrow_66 (by decide) ?_
    refine J.sub [0, 2, 3, 4, 5, 6] rfl ?_
    exact hr (v5 + 1) g9
set_option maxRecDepth 20000 in
theorem l_X0_narrow_3 {X : Xt Unit} (hX : IsM rtV X) (z : Nat) (p0 : Option Nm) (p1 : Option Nm) (p2 : Int32) (p3 : Int32) (p4 : Int32) (K : Int32 × Hp → Option (Unit × Hp)) (he : ∀ (v5 : Int32) (g : Hp), J yX0_narrow cX0_narrow 7 none 2 37 X g 69 [(5, sI v5), (0, sR p0), (1, sR p1), (2, sI p2), (3, sI p3), (4, sI p4)] [] (K (v5, g))) : ∀ (n : Nat) (v5 : Int32) (g : Hp), J yX0_narrow cX0_narrow 7 none 2 37 X g 3 [(5, sI v5), (0, sR p0), (1, sR p1), (2, sI p2), (3, sI p3), (4, sI p4)] [] ((f_X0_narrow_3_L z p0 p1 p2 p3 p4 n v5 g).bind K)
  | 0, _, _ => J.eq rfl J.none
  | n + 1, v5, g => b_X0_narrow_3 hX z p0 p1 p2 p3 p4 _ K he (fun v5 g => l_X0_narrow_3 hX z p0 p1 p2 p3 p4 K he n v5 g) v5 g
set_option maxRecDepth 20000 in
theorem m_X0_narrow (z : Nat) (t : Option Nm) (a0 : Option Nm) (a1 : Int32) (a2 : Int32) (a3 : Int32) (g : Hp) : FM yX0_narrow cX0_narrow 7 none 2 37 rtV [sR t, sR a0, sI a1, sI a2, sI a3] g (f_X0_narrow z t a0 a1 a2 a3 g) := by
  refine FM.entry (by decide +kernel) (Nat.le_of_ble_eq_true rfl) (fun X hX => ?_)
  unfold f_X0_narrow
  show J yX0_narrow cX0_narrow 7 none 2 37 X g 0 [(0, sR t), (1, sR a0), (2, sI a1), (3, sI a2), (4, sI a3)] [] _
  refine j_iconst (pc := 0) (v := 0) dX0_narrow_0 (by decide) ?_
  refine j_istore (pc := 1) (lv' := [(5, sI 0), (0, sR t), (1, sR a0), (2, sI a1), (3, sI a2), (4, sI a3)]) dX0_narrow_1 (by decide) rfl ?_
  refine l_X0_narrow_3 hX z t a0 a1 a2 a3 _ (fun q10_0 q10_g => ?_) z 0 g
  exact j_return dX0_narrow_69 hX rfl rfl
/-! X0_has -/
noncomputable def f_X0_has (z : Nat) (t : Option Nm) (a0 : Int32) (g : Hp) : Option (Int32 × Hp) :=
  (getR t 1 0 g).bind fun x1 =>
  (aldI x1 a0 g).bind fun x2 =>
  (getR t 1 1 g).bind fun x3 =>
  (aldI x3 a0 g).bind fun x4 =>
  if x4 < x2 then (rtZ 0 g)
  else (rtZ 1 g)
set_option maxRecDepth 20000 in
theorem m_X0_has (z : Nat) (t : Option Nm) (a0 : Int32) (g : Hp) : FM yX0_has cX0_has 2 (some .boolean) 0 0 rtI [sR t, sI a0] g (f_X0_has z t a0 g) := by
  refine FM.entry (by decide +kernel) (Nat.le_of_ble_eq_true rfl) (fun X hX => ?_)
  unfold f_X0_has
  show J yX0_has cX0_has 2 (some .boolean) 0 0 X g 0 [(0, sR t), (1, sI a0)] [] _
  refine j_aload_n (pc := 0) 0 dX0_has_0 rfl rfl ?_
  refine j_getR (pc := 1) (own := RX0) dX0_has_1 lf_X0_9 rfl rfl (fun x1 => ?_)
  refine j_iload_n (pc := 4) 1 dX0_has_4 rfl rfl ?_
  refine j_aldI (pc := 5) dX0_has_5 rfl (fun x2 => ?_)
  refine j_aload_n (pc := 6) 0 dX0_has_6 rfl rfl ?_
  refine j_getR (pc := 7) (own := RX0) dX0_has_7 lf_X0_15 rfl rfl (fun x3 => ?_)
  refine j_iload_n (pc := 10) 1 dX0_has_10 rfl rfl ?_
  refine j_aldI (pc := 11) dX0_has_11 rfl (fun x4 => ?_)
  refine j_icmp_gt (pc := 12) (tgt := 19) dX0_has_12 (by decide) rfl (fun hc => ?_) (fun hc => ?_)
  · refine j_iconst (pc := 19) (v := 0) dX0_has_19 (by decide) ?_
    exact j_zreturn dX0_has_20 hX rfl rfl
  · refine j_iconst (pc := 15) (v := 1) dX0_has_15 (by decide) ?_
    refine j_goto (pc := 16) (tgt := 20) dX0_has_16 (by decide) ?_
    exact j_zreturn dX0_has_20 hX rfl rfl
/-! X0_countCells -/
noncomputable def f_X0_countCells_7_b (z : Nat) (p0 : Option Nm) (rec : Int32 → Hp → Option (Int32 × Hp)) (v1 : Int32) (g : Hp) : Option (Int32 × Hp) :=
  if 144 ≤ v1 then (some (v1, g))
  else ((ick p0 1 (f_X0_has z p0 v1 g)).bind fun q2 =>
    if q2.1 = 0 then (rec (v1 + 1) q2.2)
    else ((getI p0 1 2 q2.2).bind fun x3 =>
      (putI p0 1 2 (x3 + 1) q2.2).bind fun g4 =>
      rec (v1 + 1) g4))
noncomputable def f_X0_countCells_7_L (z : Nat) (p0 : Option Nm) : Nat → Int32 → Hp → Option (Int32 × Hp)
  | 0, _, _ => none
  | n + 1, v1, g => f_X0_countCells_7_b z p0 (f_X0_countCells_7_L z p0 n) v1 g
noncomputable def f_X0_countCells (z : Nat) (t : Option Nm) (g : Hp) : Option (Unit × Hp) :=
  (putI t 1 2 0 g).bind fun g1 =>
  (f_X0_countCells_7_L z t z 0 g1).bind fun q5 =>
  some ((), q5.2)
set_option maxRecDepth 20000 in
theorem b_X0_countCells_7 {X : Xt Unit} (hX : IsM rtV X) (z : Nat) (p0 : Option Nm) (rec : Int32 → Hp → Option (Int32 × Hp)) (K : Int32 × Hp → Option (Unit × Hp)) (he : ∀ (v1 : Int32) (g : Hp), J yX0_countCells cX0_countCells 2 none 1 21 X g 38 [(1, sI v1), (0, sR p0)] [] (K (v1, g))) (hr : ∀ (v1 : Int32) (g : Hp), J yX0_countCells cX0_countCells 2 none 1 21 X g 7 [(1, sI v1), (0, sR p0)] [] ((rec v1 g).bind K)) (v1 : Int32) (g : Hp) : J yX0_countCells cX0_countCells 2 none 1 21 X g 7 [(1, sI v1), (0, sR p0)] [] ((f_X0_countCells_7_b z p0 rec v1 g).bind K) := by
  unfold f_X0_countCells_7_b
  refine j_iload_n (pc := 7) 0 dX0_countCells_7 rfl rfl ?_
  refine j_sipush (pc := 8) (v := 144) dX0_countCells_8 (by decide) ?_
  refine j_icmp_ge (pc := 11) (tgt := 38) dX0_countCells_11 (by decide) bi (fun hc => ?_) (fun hc => ?_)
  · exact he v1 g
  · refine j_aload_n (pc := 14) 1 dX0_countCells_14 rfl rfl ?_
    refine j_iload_n (pc := 15) 0 dX0_countCells_15 rfl rfl ?_
    refine j_callV (pc := 16) (own := RX0) [sI v1] [] dX0_countCells_16 lc_X0_41 lv_X0_has rfl (m_X0_has z p0 v1 g) ⟨⟨Nat.le_of_ble_eq_true rfl, Nat.le_of_ble_eq_true rfl⟩, Nat.le_of_ble_eq_true rfl⟩ rfl bb (fun q2r q2g => ?_)
    refine j_if_eq (pc := 19) (tgt := 32) dX0_countCells_19 (by decide) bi (fun hc => ?_) (fun hc => ?_)
    · refine j_iinc (pc := 32) (v := (v1 + 1)) (lv' := [(1, sI (v1 + 1)), (0, sR p0)]) 0 dX0_countCells_32 rfl rfl (by decide) rfl ?_
      refine j_goto (pc := 35) (tgt := 7) dX0_countCells_35 (by decide) ?_
      exact hr (v1 + 1) q2g
    · refine j_aload_n (pc := 22) 1 dX0_countCells_22 rfl rfl ?_
      refine j_dup (pc := 23) dX0_countCells_23 rfl ?_
      refine j_getI (pc := 24) (own := RX0) dX0_countCells_24 lf_X0_38 rfl bb (fun x3 => ?_)
      refine j_iconst (pc := 27) (v := 1) dX0_countCells_27 (by decide) ?_
      refine j_iadd (pc := 28) dX0_countCells_28 ?_
      refine j_putI (pc := 29) (own := RX0) dX0_countCells_29 lf_X0_38 lt_1_2 lw_X0_38_X0_countCells rfl bb (fun g4 => ?_)
      refine j_iinc (pc := 32) (v := (v1 + 1)) (lv' := [(1, sI (v1 + 1)), (0, sR p0)]) 0 dX0_countCells_32 rfl rfl (by decide) rfl ?_
      refine j_goto (pc := 35) (tgt := 7) dX0_countCells_35 (by decide) ?_
      exact hr (v1 + 1) g4
set_option maxRecDepth 20000 in
theorem l_X0_countCells_7 {X : Xt Unit} (hX : IsM rtV X) (z : Nat) (p0 : Option Nm) (K : Int32 × Hp → Option (Unit × Hp)) (he : ∀ (v1 : Int32) (g : Hp), J yX0_countCells cX0_countCells 2 none 1 21 X g 38 [(1, sI v1), (0, sR p0)] [] (K (v1, g))) : ∀ (n : Nat) (v1 : Int32) (g : Hp), J yX0_countCells cX0_countCells 2 none 1 21 X g 7 [(1, sI v1), (0, sR p0)] [] ((f_X0_countCells_7_L z p0 n v1 g).bind K)
  | 0, _, _ => J.eq rfl J.none
  | n + 1, v1, g => b_X0_countCells_7 hX z p0 _ K he (fun v1 g => l_X0_countCells_7 hX z p0 K he n v1 g) v1 g
set_option maxRecDepth 20000 in
theorem m_X0_countCells (z : Nat) (t : Option Nm) (g : Hp) : FM yX0_countCells cX0_countCells 2 none 1 21 rtV [sR t] g (f_X0_countCells z t g) := by
  refine FM.entry (by decide +kernel) (Nat.le_of_ble_eq_true rfl) (fun X hX => ?_)
  unfold f_X0_countCells
  show J yX0_countCells cX0_countCells 2 none 1 21 X g 0 [(0, sR t)] [] _
  refine j_aload_n (pc := 0) 0 dX0_countCells_0 rfl rfl ?_
  refine j_iconst (pc := 1) (v := 0) dX0_countCells_1 (by decide) ?_
  refine j_putI (pc := 2) (own := RX0) dX0_countCells_2 lf_X0_38 lt_1_2 lw_X0_38_X0_countCells rfl rfl (fun g1 => ?_)
  refine j_iconst (pc := 5) (v := 0) dX0_countCells_5 (by decide) ?_
  refine j_istore_n (pc := 6) (lv' := [(1, sI 0), (0, sR t)]) dX0_countCells_6 rfl (by decide) rfl ?_
  refine l_X0_countCells_7 hX z t _ (fun q5_0 q5_g => ?_) z 0 g1
  exact j_return dX0_countCells_38 hX rfl rfl
