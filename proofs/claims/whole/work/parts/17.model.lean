/-! by program: words of the tables -/
set_option maxRecDepth 20000 in
theorem lo_X9_1 : FLI RX9 1 := ⟨⟨List.mem_append_right _ (List.mem_of_getElem? (i := 676) (by decide +kernel)), rfl⟩, ⟨List.mem_append_right _ (List.mem_of_getElem? (i := 27) (by decide +kernel)), rfl⟩, ⟨List.mem_append_right _ (List.mem_of_getElem? (i := 28) (by decide +kernel)), rfl⟩⟩
set_option maxRecDepth 20000 in
theorem inTX9 : ∀ w ∈ u_ws RX9 TX9 27, w ∈ lw_tbl ∧ okW w = true := List.forall_mem_map.mpr fun k hk => by
  have hk2 := List.mem_range.mp hk
  rcases (show k = 0 ∨ k = 1 ∨ k = 2 ∨ k = 3 ∨ k = 4 ∨ k = 5 ∨ k = 6 ∨ k = 7 ∨ k = 8 ∨ k = 9 ∨ k = 10 ∨ k = 11 ∨ k = 12 ∨ k = 13 ∨ k = 14 ∨ k = 15 ∨ k = 16 ∨ k = 17 ∨ k = 18 ∨ k = 19 ∨ k = 20 ∨ k = 21 ∨ k = 22 ∨ k = 23 ∨ k = 24 ∨ k = 25 ∨ k = 26 by omega) with rfl | rfl | rfl | rfl | rfl | rfl | rfl | rfl | rfl | rfl | rfl | rfl | rfl | rfl | rfl | rfl | rfl | rfl | rfl | rfl | rfl | rfl | rfl | rfl | rfl | rfl | rfl
  · exact ⟨List.mem_append_right _ (List.mem_of_getElem? (i := 704) (by decide +kernel)), rfl⟩
  · exact ⟨List.mem_append_right _ (List.mem_of_getElem? (i := 706) (by decide +kernel)), rfl⟩
  · exact ⟨List.mem_append_right _ (List.mem_of_getElem? (i := 708) (by decide +kernel)), rfl⟩
  · exact ⟨List.mem_append_right _ (List.mem_of_getElem? (i := 710) (by decide +kernel)), rfl⟩
  · exact ⟨List.mem_append_right _ (List.mem_of_getElem? (i := 712) (by decide +kernel)), rfl⟩
  · exact ⟨List.mem_append_right _ (List.mem_of_getElem? (i := 714) (by decide +kernel)), rfl⟩
  · exact ⟨List.mem_append_right _ (List.mem_of_getElem? (i := 716) (by decide +kernel)), rfl⟩
  · exact ⟨List.mem_append_right _ (List.mem_of_getElem? (i := 718) (by decide +kernel)), rfl⟩
  · exact ⟨List.mem_append_right _ (List.mem_of_getElem? (i := 720) (by decide +kernel)), rfl⟩
  · exact ⟨List.mem_append_right _ (List.mem_of_getElem? (i := 722) (by decide +kernel)), rfl⟩
  · exact ⟨List.mem_append_right _ (List.mem_of_getElem? (i := 724) (by decide +kernel)), rfl⟩
  · exact ⟨List.mem_append_right _ (List.mem_of_getElem? (i := 726) (by decide +kernel)), rfl⟩
  · exact ⟨List.mem_append_right _ (List.mem_of_getElem? (i := 728) (by decide +kernel)), rfl⟩
  · exact ⟨List.mem_append_right _ (List.mem_of_getElem? (i := 730) (by decide +kernel)), rfl⟩
  · exact ⟨List.mem_append_right _ (List.mem_of_getElem? (i := 732) (by decide +kernel)), rfl⟩
  · exact ⟨List.mem_append_right _ (List.mem_of_getElem? (i := 734) (by decide +kernel)), rfl⟩
  · exact ⟨List.mem_append_right _ (List.mem_of_getElem? (i := 736) (by decide +kernel)), rfl⟩
  · exact ⟨List.mem_append_right _ (List.mem_of_getElem? (i := 738) (by decide +kernel)), rfl⟩
  · exact ⟨List.mem_append_right _ (List.mem_of_getElem? (i := 740) (by decide +kernel)), rfl⟩
  · exact ⟨List.mem_append_right _ (List.mem_of_getElem? (i := 742) (by decide +kernel)), rfl⟩
  · exact ⟨List.mem_append_right _ (List.mem_of_getElem? (i := 744) (by decide +kernel)), rfl⟩
  · exact ⟨List.mem_append_right _ (List.mem_of_getElem? (i := 746) (by decide +kernel)), rfl⟩
  · exact ⟨List.mem_append_right _ (List.mem_of_getElem? (i := 748) (by decide +kernel)), rfl⟩
  · exact ⟨List.mem_append_right _ (List.mem_of_getElem? (i := 750) (by decide +kernel)), rfl⟩
  · exact ⟨List.mem_append_right _ (List.mem_of_getElem? (i := 752) (by decide +kernel)), rfl⟩
  · exact ⟨List.mem_append_right _ (List.mem_of_getElem? (i := 754) (by decide +kernel)), rfl⟩
  · exact ⟨List.mem_append_right _ (List.mem_of_getElem? (i := 756) (by decide +kernel)), rfl⟩
set_option maxRecDepth 20000 in
theorem lf_X9_7 : FLK RX9 7 10 1 true := ⟨RX9, TX9, 27, RX9, ⟨rfl, by decide, rfl, by decide⟩, inTX9, Or.inl ⟨List.mem_append_right _ (List.mem_of_getElem? (i := 678) (by decide +kernel)), rfl⟩, Or.inl rfl⟩
set_option maxRecDepth 20000 in
theorem lt_10_1 : FLT 10 1 (.array .int) := ⟨RX9, TX9, 27, tyX9, rfl, by decide +kernel, tyX9_ok, nmX9⟩
set_option maxRecDepth 20000 in
theorem lw_X9_7_X9_init : FLW yX9_init RX9 7 10 1 := ⟨RX9, TX9, 27, rfl, Or.inr ⟨rfl, rfl, rfl, List.mem_append_right _ (List.mem_of_getElem? (i := 678) (by decide +kernel)), rfl⟩⟩
set_option maxRecDepth 20000 in
theorem lf_X9_13 : FLK RX9 13 10 3 false := ⟨RX9, TX9, 27, RX9, ⟨rfl, by decide, rfl, by decide⟩, inTX9, Or.inl ⟨List.mem_append_right _ (List.mem_of_getElem? (i := 680) (by decide +kernel)), rfl⟩, Or.inl rfl⟩
set_option maxRecDepth 20000 in
theorem lt_10_3 : FLT 10 3 .int := ⟨RX9, TX9, 27, tyX9, rfl, by decide +kernel, tyX9_ok, nmX9⟩
set_option maxRecDepth 20000 in
theorem lw_X9_13_X9_init : FLW yX9_init RX9 13 10 3 := ⟨RX9, TX9, 27, rfl, Or.inl rfl⟩
set_option maxRecDepth 20000 in
theorem lf_X9_17 : FLK RX9 17 10 4 false := ⟨RX9, TX9, 27, RX9, ⟨rfl, by decide, rfl, by decide⟩, inTX9, Or.inl ⟨List.mem_append_right _ (List.mem_of_getElem? (i := 681) (by decide +kernel)), rfl⟩, Or.inl rfl⟩
set_option maxRecDepth 20000 in
theorem lt_10_4 : FLT 10 4 .int := ⟨RX9, TX9, 27, tyX9, rfl, by decide +kernel, tyX9_ok, nmX9⟩
set_option maxRecDepth 20000 in
theorem lw_X9_17_X9_init : FLW yX9_init RX9 17 10 4 := ⟨RX9, TX9, 27, rfl, Or.inl rfl⟩
set_option maxRecDepth 20000 in
theorem lf_X9_20 : FLK RX9 20 10 7 true := ⟨RX9, TX9, 27, RX9, ⟨rfl, by decide, rfl, by decide⟩, inTX9, Or.inl ⟨List.mem_append_right _ (List.mem_of_getElem? (i := 684) (by decide +kernel)), rfl⟩, Or.inl rfl⟩
set_option maxRecDepth 20000 in
theorem lt_10_7 : FLT 10 7 (.array .int) := ⟨RX9, TX9, 27, tyX9, rfl, by decide +kernel, tyX9_ok, nmX9⟩
set_option maxRecDepth 20000 in
theorem lw_X9_20_X9_init : FLW yX9_init RX9 20 10 7 := ⟨RX9, TX9, 27, rfl, Or.inr ⟨rfl, rfl, rfl, List.mem_append_right _ (List.mem_of_getElem? (i := 684) (by decide +kernel)), rfl⟩⟩
set_option maxRecDepth 20000 in
theorem lA_boolean : Cond.arrayClass .boolean ∈ lw_tbl := List.mem_append_right _ (List.mem_of_getElem? (i := 759) (by decide +kernel))
set_option maxRecDepth 20000 in
theorem lf_X9_23 : FLK RX9 23 10 8 true := ⟨RX9, TX9, 27, RX9, ⟨rfl, by decide, rfl, by decide⟩, inTX9, Or.inl ⟨List.mem_append_right _ (List.mem_of_getElem? (i := 685) (by decide +kernel)), rfl⟩, Or.inl rfl⟩
set_option maxRecDepth 20000 in
theorem lt_10_8 : FLT 10 8 (.array .boolean) := ⟨RX9, TX9, 27, tyX9, rfl, by decide +kernel, tyX9_ok, nmX9⟩
set_option maxRecDepth 20000 in
theorem lw_X9_23_X9_init : FLW yX9_init RX9 23 10 8 := ⟨RX9, TX9, 27, rfl, Or.inr ⟨rfl, rfl, rfl, List.mem_append_right _ (List.mem_of_getElem? (i := 685) (by decide +kernel)), rfl⟩⟩
set_option maxRecDepth 20000 in
theorem lf_X9_27 : FLK RX9 27 10 10 true := ⟨RX9, TX9, 27, RX9, ⟨rfl, by decide, rfl, by decide⟩, inTX9, Or.inl ⟨List.mem_append_right _ (List.mem_of_getElem? (i := 687) (by decide +kernel)), rfl⟩, Or.inl rfl⟩
set_option maxRecDepth 20000 in
theorem lt_10_10 : FLT 10 10 (.array .int) := ⟨RX9, TX9, 27, tyX9, rfl, by decide +kernel, tyX9_ok, nmX9⟩
set_option maxRecDepth 20000 in
theorem lw_X9_27_X9_init : FLW yX9_init RX9 27 10 10 := ⟨RX9, TX9, 27, rfl, Or.inr ⟨rfl, rfl, rfl, List.mem_append_right _ (List.mem_of_getElem? (i := 687) (by decide +kernel)), rfl⟩⟩
set_option maxRecDepth 20000 in
theorem lf_X9_30 : FLK RX9 30 10 11 true := ⟨RX9, TX9, 27, RX9, ⟨rfl, by decide, rfl, by decide⟩, inTX9, Or.inl ⟨List.mem_append_right _ (List.mem_of_getElem? (i := 688) (by decide +kernel)), rfl⟩, Or.inl rfl⟩
set_option maxRecDepth 20000 in
theorem lt_10_11 : FLT 10 11 (.array .int) := ⟨RX9, TX9, 27, tyX9, rfl, by decide +kernel, tyX9_ok, nmX9⟩
set_option maxRecDepth 20000 in
theorem lw_X9_30_X9_init : FLW yX9_init RX9 30 10 11 := ⟨RX9, TX9, 27, rfl, Or.inr ⟨rfl, rfl, rfl, List.mem_append_right _ (List.mem_of_getElem? (i := 688) (by decide +kernel)), rfl⟩⟩
set_option maxRecDepth 20000 in
theorem lf_X9_33 : FLK RX9 33 10 12 true := ⟨RX9, TX9, 27, RX9, ⟨rfl, by decide, rfl, by decide⟩, inTX9, Or.inl ⟨List.mem_append_right _ (List.mem_of_getElem? (i := 689) (by decide +kernel)), rfl⟩, Or.inl rfl⟩
set_option maxRecDepth 20000 in
theorem lt_10_12 : FLT 10 12 (.array .int) := ⟨RX9, TX9, 27, tyX9, rfl, by decide +kernel, tyX9_ok, nmX9⟩
set_option maxRecDepth 20000 in
theorem lw_X9_33_X9_init : FLW yX9_init RX9 33 10 12 := ⟨RX9, TX9, 27, rfl, Or.inr ⟨rfl, rfl, rfl, List.mem_append_right _ (List.mem_of_getElem? (i := 689) (by decide +kernel)), rfl⟩⟩
set_option maxRecDepth 20000 in
theorem lf_X9_36 : FLK RX9 36 10 13 true := ⟨RX9, TX9, 27, RX9, ⟨rfl, by decide, rfl, by decide⟩, inTX9, Or.inl ⟨List.mem_append_right _ (List.mem_of_getElem? (i := 690) (by decide +kernel)), rfl⟩, Or.inl rfl⟩
set_option maxRecDepth 20000 in
theorem lt_10_13 : FLT 10 13 (.array .int) := ⟨RX9, TX9, 27, tyX9, rfl, by decide +kernel, tyX9_ok, nmX9⟩
set_option maxRecDepth 20000 in
theorem lw_X9_36_X9_init : FLW yX9_init RX9 36 10 13 := ⟨RX9, TX9, 27, rfl, Or.inr ⟨rfl, rfl, rfl, List.mem_append_right _ (List.mem_of_getElem? (i := 690) (by decide +kernel)), rfl⟩⟩
set_option maxRecDepth 20000 in
theorem lf_X9_39 : FLK RX9 39 10 14 true := ⟨RX9, TX9, 27, RX9, ⟨rfl, by decide, rfl, by decide⟩, inTX9, Or.inl ⟨List.mem_append_right _ (List.mem_of_getElem? (i := 691) (by decide +kernel)), rfl⟩, Or.inl rfl⟩
set_option maxRecDepth 20000 in
theorem lt_10_14 : FLT 10 14 (.array .int) := ⟨RX9, TX9, 27, tyX9, rfl, by decide +kernel, tyX9_ok, nmX9⟩
set_option maxRecDepth 20000 in
theorem lw_X9_39_X9_init : FLW yX9_init RX9 39 10 14 := ⟨RX9, TX9, 27, rfl, Or.inr ⟨rfl, rfl, rfl, List.mem_append_right _ (List.mem_of_getElem? (i := 691) (by decide +kernel)), rfl⟩⟩
set_option maxRecDepth 20000 in
theorem lf_X9_42 : FLK RX9 42 10 16 true := ⟨RX9, TX9, 27, RX9, ⟨rfl, by decide, rfl, by decide⟩, inTX9, Or.inl ⟨List.mem_append_right _ (List.mem_of_getElem? (i := 693) (by decide +kernel)), rfl⟩, Or.inl rfl⟩
set_option maxRecDepth 20000 in
theorem lt_10_16 : FLT 10 16 (.array .int) := ⟨RX9, TX9, 27, tyX9, rfl, by decide +kernel, tyX9_ok, nmX9⟩
set_option maxRecDepth 20000 in
theorem lw_X9_42_X9_init : FLW yX9_init RX9 42 10 16 := ⟨RX9, TX9, 27, rfl, Or.inr ⟨rfl, rfl, rfl, List.mem_append_right _ (List.mem_of_getElem? (i := 693) (by decide +kernel)), rfl⟩⟩
set_option maxRecDepth 20000 in
theorem lf_X9_45 : FLK RX9 45 10 17 true := ⟨RX9, TX9, 27, RX9, ⟨rfl, by decide, rfl, by decide⟩, inTX9, Or.inl ⟨List.mem_append_right _ (List.mem_of_getElem? (i := 694) (by decide +kernel)), rfl⟩, Or.inl rfl⟩
set_option maxRecDepth 20000 in
theorem lt_10_17 : FLT 10 17 (.array .int) := ⟨RX9, TX9, 27, tyX9, rfl, by decide +kernel, tyX9_ok, nmX9⟩
set_option maxRecDepth 20000 in
theorem lw_X9_45_X9_init : FLW yX9_init RX9 45 10 17 := ⟨RX9, TX9, 27, rfl, Or.inr ⟨rfl, rfl, rfl, List.mem_append_right _ (List.mem_of_getElem? (i := 694) (by decide +kernel)), rfl⟩⟩
set_option maxRecDepth 20000 in
theorem lf_X9_48 : FLK RX9 48 10 18 true := ⟨RX9, TX9, 27, RX9, ⟨rfl, by decide, rfl, by decide⟩, inTX9, Or.inl ⟨List.mem_append_right _ (List.mem_of_getElem? (i := 695) (by decide +kernel)), rfl⟩, Or.inl rfl⟩
set_option maxRecDepth 20000 in
theorem lt_10_18 : FLT 10 18 (.array .int) := ⟨RX9, TX9, 27, tyX9, rfl, by decide +kernel, tyX9_ok, nmX9⟩
set_option maxRecDepth 20000 in
theorem lw_X9_48_X9_init : FLW yX9_init RX9 48 10 18 := ⟨RX9, TX9, 27, rfl, Or.inr ⟨rfl, rfl, rfl, List.mem_append_right _ (List.mem_of_getElem? (i := 695) (by decide +kernel)), rfl⟩⟩
set_option maxRecDepth 20000 in
theorem lf_X9_51 : FLK RX9 51 10 19 true := ⟨RX9, TX9, 27, RX9, ⟨rfl, by decide, rfl, by decide⟩, inTX9, Or.inl ⟨List.mem_append_right _ (List.mem_of_getElem? (i := 696) (by decide +kernel)), rfl⟩, Or.inl rfl⟩
set_option maxRecDepth 20000 in
theorem lt_10_19 : FLT 10 19 (.array .int) := ⟨RX9, TX9, 27, tyX9, rfl, by decide +kernel, tyX9_ok, nmX9⟩
set_option maxRecDepth 20000 in
theorem lw_X9_51_X9_init : FLW yX9_init RX9 51 10 19 := ⟨RX9, TX9, 27, rfl, Or.inr ⟨rfl, rfl, rfl, List.mem_append_right _ (List.mem_of_getElem? (i := 696) (by decide +kernel)), rfl⟩⟩
set_option maxRecDepth 20000 in
theorem lf_X9_54 : FLK RX9 54 10 21 true := ⟨RX9, TX9, 27, RX9, ⟨rfl, by decide, rfl, by decide⟩, inTX9, Or.inl ⟨List.mem_append_right _ (List.mem_of_getElem? (i := 698) (by decide +kernel)), rfl⟩, Or.inl rfl⟩
set_option maxRecDepth 20000 in
theorem lt_10_21 : FLT 10 21 (.array .int) := ⟨RX9, TX9, 27, tyX9, rfl, by decide +kernel, tyX9_ok, nmX9⟩
set_option maxRecDepth 20000 in
theorem lw_X9_54_X9_init : FLW yX9_init RX9 54 10 21 := ⟨RX9, TX9, 27, rfl, Or.inr ⟨rfl, rfl, rfl, List.mem_append_right _ (List.mem_of_getElem? (i := 698) (by decide +kernel)), rfl⟩⟩
set_option maxRecDepth 20000 in
theorem lf_X9_57 : FLK RX9 57 10 22 true := ⟨RX9, TX9, 27, RX9, ⟨rfl, by decide, rfl, by decide⟩, inTX9, Or.inl ⟨List.mem_append_right _ (List.mem_of_getElem? (i := 699) (by decide +kernel)), rfl⟩, Or.inl rfl⟩
set_option maxRecDepth 20000 in
theorem lt_10_22 : FLT 10 22 (.array .int) := ⟨RX9, TX9, 27, tyX9, rfl, by decide +kernel, tyX9_ok, nmX9⟩
set_option maxRecDepth 20000 in
theorem lw_X9_57_X9_init : FLW yX9_init RX9 57 10 22 := ⟨RX9, TX9, 27, rfl, Or.inr ⟨rfl, rfl, rfl, List.mem_append_right _ (List.mem_of_getElem? (i := 699) (by decide +kernel)), rfl⟩⟩
set_option maxRecDepth 20000 in
theorem lf_X9_60 : FLK RX9 60 10 23 true := ⟨RX9, TX9, 27, RX9, ⟨rfl, by decide, rfl, by decide⟩, inTX9, Or.inl ⟨List.mem_append_right _ (List.mem_of_getElem? (i := 700) (by decide +kernel)), rfl⟩, Or.inl rfl⟩
set_option maxRecDepth 20000 in
theorem lt_10_23 : FLT 10 23 (.array .int) := ⟨RX9, TX9, 27, tyX9, rfl, by decide +kernel, tyX9_ok, nmX9⟩
set_option maxRecDepth 20000 in
theorem lw_X9_60_X9_init : FLW yX9_init RX9 60 10 23 := ⟨RX9, TX9, 27, rfl, Or.inr ⟨rfl, rfl, rfl, List.mem_append_right _ (List.mem_of_getElem? (i := 700) (by decide +kernel)), rfl⟩⟩
set_option maxRecDepth 20000 in
theorem lf_X9_63 : FLK RX9 63 10 25 true := ⟨RX9, TX9, 27, RX9, ⟨rfl, by decide, rfl, by decide⟩, inTX9, Or.inl ⟨List.mem_append_right _ (List.mem_of_getElem? (i := 702) (by decide +kernel)), rfl⟩, Or.inl rfl⟩
set_option maxRecDepth 20000 in
theorem lt_10_25 : FLT 10 25 (.array .int) := ⟨RX9, TX9, 27, tyX9, rfl, by decide +kernel, tyX9_ok, nmX9⟩
set_option maxRecDepth 20000 in
theorem lw_X9_63_X9_init : FLW yX9_init RX9 63 10 25 := ⟨RX9, TX9, 27, rfl, Or.inr ⟨rfl, rfl, rfl, List.mem_append_right _ (List.mem_of_getElem? (i := 702) (by decide +kernel)), rfl⟩⟩
set_option maxRecDepth 20000 in
theorem lf_X9_66 : FLK RX9 66 10 26 true := ⟨RX9, TX9, 27, RX9, ⟨rfl, by decide, rfl, by decide⟩, inTX9, Or.inl ⟨List.mem_append_right _ (List.mem_of_getElem? (i := 703) (by decide +kernel)), rfl⟩, Or.inl rfl⟩
set_option maxRecDepth 20000 in
theorem lt_10_26 : FLT 10 26 (.array .int) := ⟨RX9, TX9, 27, tyX9, rfl, by decide +kernel, tyX9_ok, nmX9⟩
set_option maxRecDepth 20000 in
theorem lw_X9_66_X9_init : FLW yX9_init RX9 66 10 26 := ⟨RX9, TX9, 27, rfl, Or.inr ⟨rfl, rfl, rfl, List.mem_append_right _ (List.mem_of_getElem? (i := 703) (by decide +kernel)), rfl⟩⟩
set_option maxRecDepth 20000 in
theorem lf_X9_69 : FLK RX9 69 10 0 false := ⟨RX9, TX9, 27, RX9, ⟨rfl, by decide, rfl, by decide⟩, inTX9, Or.inl ⟨List.mem_append_right _ (List.mem_of_getElem? (i := 677) (by decide +kernel)), rfl⟩, Or.inl rfl⟩
set_option maxRecDepth 20000 in
theorem lt_10_0 : FLT 10 0 .int := ⟨RX9, TX9, 27, tyX9, rfl, by decide +kernel, tyX9_ok, nmX9⟩
set_option maxRecDepth 20000 in
theorem lw_X9_69_X9_meets : FLW yX9_meets RX9 69 10 0 := ⟨RX9, TX9, 27, rfl, Or.inl rfl⟩
set_option maxRecDepth 20000 in
theorem lc_X9_72 : FLC RX9 72 yX9_in cX9_in 3 (some .boolean) 3 := ⟨Or.inl ⟨List.mem_append_right _ (List.mem_of_getElem? (i := 764) (by decide +kernel)), rfl⟩, ⟨List.mem_append_right _ (List.mem_of_getElem? (i := 766) (by decide +kernel)), rfl⟩, ⟨List.mem_append_right _ (List.mem_of_getElem? (i := 7) (by decide +kernel)), rfl⟩, ⟨⟨by decide +kernel, by decide +kernel⟩, by decide +kernel⟩⟩
set_option maxRecDepth 20000 in
theorem ls_X9_in : FLS yX9_in := ⟨List.mem_append_right _ (List.mem_of_getElem? (i := 765) (by decide +kernel)), rfl⟩
set_option maxRecDepth 20000 in
theorem lf_X9_76 : FLK RX9 76 10 15 false := ⟨RX9, TX9, 27, RX9, ⟨rfl, by decide, rfl, by decide⟩, inTX9, Or.inl ⟨List.mem_append_right _ (List.mem_of_getElem? (i := 692) (by decide +kernel)), rfl⟩, Or.inl rfl⟩
set_option maxRecDepth 20000 in
theorem lw_X9_13_X9_rule : FLW yX9_rule RX9 13 10 3 := ⟨RX9, TX9, 27, rfl, Or.inl rfl⟩
set_option maxRecDepth 20000 in
theorem lw_X9_17_X9_rule : FLW yX9_rule RX9 17 10 4 := ⟨RX9, TX9, 27, rfl, Or.inl rfl⟩
set_option maxRecDepth 20000 in
theorem lc_X9_79 : FLC RX9 79 yX9_isCell cX9_isCell 1 (some .boolean) 1 := ⟨Or.inl ⟨List.mem_append_right _ (List.mem_of_getElem? (i := 771) (by decide +kernel)), rfl⟩, ⟨List.mem_append_right _ (List.mem_of_getElem? (i := 773) (by decide +kernel)), rfl⟩, ⟨List.mem_append_right _ (List.mem_of_getElem? (i := 7) (by decide +kernel)), rfl⟩, ⟨⟨by decide +kernel, by decide +kernel⟩, by decide +kernel⟩⟩
set_option maxRecDepth 20000 in
theorem ls_X9_isCell : FLS yX9_isCell := ⟨List.mem_append_right _ (List.mem_of_getElem? (i := 772) (by decide +kernel)), rfl⟩
set_option maxRecDepth 20000 in
theorem lf_X9_83 : FLK RX9 83 10 6 false := ⟨RX9, TX9, 27, RX9, ⟨rfl, by decide, rfl, by decide⟩, inTX9, Or.inl ⟨List.mem_append_right _ (List.mem_of_getElem? (i := 683) (by decide +kernel)), rfl⟩, Or.inl rfl⟩
set_option maxRecDepth 20000 in
theorem lt_10_6 : FLT 10 6 .int := ⟨RX9, TX9, 27, tyX9, rfl, by decide +kernel, tyX9_ok, nmX9⟩
set_option maxRecDepth 20000 in
theorem lw_X9_83_X9_station : FLW yX9_station RX9 83 10 6 := ⟨RX9, TX9, 27, rfl, Or.inl rfl⟩
set_option maxRecDepth 20000 in
theorem lf_X9_86 : FLK RX9 86 10 9 false := ⟨RX9, TX9, 27, RX9, ⟨rfl, by decide, rfl, by decide⟩, inTX9, Or.inl ⟨List.mem_append_right _ (List.mem_of_getElem? (i := 686) (by decide +kernel)), rfl⟩, Or.inl rfl⟩
set_option maxRecDepth 20000 in
theorem lt_10_9 : FLT 10 9 .int := ⟨RX9, TX9, 27, tyX9, rfl, by decide +kernel, tyX9_ok, nmX9⟩
set_option maxRecDepth 20000 in
theorem lw_X9_86_X9_town : FLW yX9_town RX9 86 10 9 := ⟨RX9, TX9, 27, rfl, Or.inl rfl⟩
set_option maxRecDepth 20000 in
theorem lc_X9_89 : FLC RX9 89 yX9_isStation cX9_isStation 2 (some .boolean) 1 := ⟨Or.inl ⟨List.mem_append_right _ (List.mem_of_getElem? (i := 782) (by decide +kernel)), rfl⟩, ⟨List.mem_append_right _ (List.mem_of_getElem? (i := 785) (by decide +kernel)), rfl⟩, ⟨List.mem_append_right _ (List.mem_of_getElem? (i := 7) (by decide +kernel)), rfl⟩, ⟨⟨by decide +kernel, by decide +kernel⟩, by decide +kernel⟩⟩
set_option maxRecDepth 20000 in
theorem lv_X9_isStation : FLV yX9_isStation 10 := ⟨by decide, by decide +kernel, ⟨List.mem_append_right _ (List.mem_of_getElem? (i := 784) (by decide +kernel)), rfl⟩, ⟨List.mem_append_left _ (List.mem_of_getElem? (i := 41) (by decide +kernel)), rfl⟩⟩
set_option maxRecDepth 20000 in
theorem lc_X9_92 : FLC RX9 92 yX9_travels cX9_travels 7 (some .int) 2 := ⟨Or.inl ⟨List.mem_append_right _ (List.mem_of_getElem? (i := 790) (by decide +kernel)), rfl⟩, ⟨List.mem_append_right _ (List.mem_of_getElem? (i := 793) (by decide +kernel)), rfl⟩, ⟨List.mem_append_right _ (List.mem_of_getElem? (i := 7) (by decide +kernel)), rfl⟩, ⟨⟨by decide +kernel, by decide +kernel⟩, by decide +kernel⟩⟩
set_option maxRecDepth 20000 in
theorem lv_X9_travels : FLV yX9_travels 10 := ⟨by decide, by decide +kernel, ⟨List.mem_append_right _ (List.mem_of_getElem? (i := 792) (by decide +kernel)), rfl⟩, ⟨List.mem_append_left _ (List.mem_of_getElem? (i := 42) (by decide +kernel)), rfl⟩⟩
set_option maxRecDepth 20000 in
theorem lk_X9_96 : Cond.constant RX9 96 100000 ∈ lw_tbl := List.mem_append_right _ (List.mem_of_getElem? (i := 798) (by decide +kernel))
set_option maxRecDepth 20000 in
theorem lf_X9_97 : FLK RX9 97 10 5 false := ⟨RX9, TX9, 27, RX9, ⟨rfl, by decide, rfl, by decide⟩, inTX9, Or.inl ⟨List.mem_append_right _ (List.mem_of_getElem? (i := 682) (by decide +kernel)), rfl⟩, Or.inl rfl⟩
set_option maxRecDepth 20000 in
theorem lt_10_5 : FLT 10 5 .int := ⟨RX9, TX9, 27, tyX9, rfl, by decide +kernel, tyX9_ok, nmX9⟩
set_option maxRecDepth 20000 in
theorem lw_X9_97_X9_later : FLW yX9_later RX9 97 10 5 := ⟨RX9, TX9, 27, rfl, Or.inl rfl⟩
set_option maxRecDepth 20000 in
theorem lc_X9_100 : FLC RX9 100 yX9_meets cX9_meets 2 (some .int) 1 := ⟨Or.inl ⟨List.mem_append_right _ (List.mem_of_getElem? (i := 803) (by decide +kernel)), rfl⟩, ⟨List.mem_append_right _ (List.mem_of_getElem? (i := 806) (by decide +kernel)), rfl⟩, ⟨List.mem_append_right _ (List.mem_of_getElem? (i := 7) (by decide +kernel)), rfl⟩, ⟨⟨by decide +kernel, by decide +kernel⟩, by decide +kernel⟩⟩
set_option maxRecDepth 20000 in
theorem lv_X9_meets : FLV yX9_meets 10 := ⟨by decide, by decide +kernel, ⟨List.mem_append_right _ (List.mem_of_getElem? (i := 805) (by decide +kernel)), rfl⟩, ⟨List.mem_append_left _ (List.mem_of_getElem? (i := 43) (by decide +kernel)), rfl⟩⟩
set_option maxRecDepth 20000 in
theorem lk_X9_104 : Cond.constant RX9 104 (-100000) ∈ lw_tbl := List.mem_append_right _ (List.mem_of_getElem? (i := 811) (by decide +kernel))
set_option maxRecDepth 20000 in
theorem lf_X9_105 : FLK RX9 105 10 2 false := ⟨RX9, TX9, 27, RX9, ⟨rfl, by decide, rfl, by decide⟩, inTX9, Or.inl ⟨List.mem_append_right _ (List.mem_of_getElem? (i := 679) (by decide +kernel)), rfl⟩, Or.inl rfl⟩
set_option maxRecDepth 20000 in
theorem lt_10_2 : FLT 10 2 .int := ⟨RX9, TX9, 27, tyX9, rfl, by decide +kernel, tyX9_ok, nmX9⟩
set_option maxRecDepth 20000 in
theorem lw_X9_105_X9_lay : FLW yX9_lay RX9 105 10 2 := ⟨RX9, TX9, 27, rfl, Or.inl rfl⟩
set_option maxRecDepth 20000 in
theorem lc_X9_108 : FLC RX9 108 yX9_sumOf cX9_sumOf 8 (some .long) 3 := ⟨Or.inl ⟨List.mem_append_right _ (List.mem_of_getElem? (i := 824) (by decide +kernel)), rfl⟩, ⟨List.mem_append_right _ (List.mem_of_getElem? (i := 827) (by decide +kernel)), rfl⟩, ⟨List.mem_append_right _ (List.mem_of_getElem? (i := 7) (by decide +kernel)), rfl⟩, ⟨⟨by decide +kernel, by decide +kernel⟩, by decide +kernel⟩⟩
set_option maxRecDepth 20000 in
theorem lv_X9_sumOf : FLV yX9_sumOf 10 := ⟨by decide, by decide +kernel, ⟨List.mem_append_right _ (List.mem_of_getElem? (i := 826) (by decide +kernel)), rfl⟩, ⟨List.mem_append_left _ (List.mem_of_getElem? (i := 44) (by decide +kernel)), rfl⟩⟩
set_option maxRecDepth 20000 in
theorem lk_X9_112 : Cond.constant RX9 112 (-1000000000) ∈ lw_tbl := List.mem_append_right _ (List.mem_of_getElem? (i := 845) (by decide +kernel))
set_option maxRecDepth 20000 in
theorem lk_X9_113 : Cond.constant RX9 113 1000000000 ∈ lw_tbl := List.mem_append_right _ (List.mem_of_getElem? (i := 846) (by decide +kernel))
set_option maxRecDepth 20000 in
theorem lc_X9_114 : FLC RX9 114 yX9_hears cX9_hears 5 (some .boolean) 2 := ⟨Or.inl ⟨List.mem_append_right _ (List.mem_of_getElem? (i := 837) (by decide +kernel)), rfl⟩, ⟨List.mem_append_right _ (List.mem_of_getElem? (i := 840) (by decide +kernel)), rfl⟩, ⟨List.mem_append_right _ (List.mem_of_getElem? (i := 7) (by decide +kernel)), rfl⟩, ⟨⟨by decide +kernel, by decide +kernel⟩, by decide +kernel⟩⟩
set_option maxRecDepth 20000 in
theorem lv_X9_hears : FLV yX9_hears 10 := ⟨by decide, by decide +kernel, ⟨List.mem_append_right _ (List.mem_of_getElem? (i := 839) (by decide +kernel)), rfl⟩, ⟨List.mem_append_left _ (List.mem_of_getElem? (i := 45) (by decide +kernel)), rfl⟩⟩
set_option maxRecDepth 20000 in
theorem lk_X9_118 : Cond.constant RX9 118 1000000 ∈ lw_tbl := List.mem_append_right _ (List.mem_of_getElem? (i := 836) (by decide +kernel))
set_option maxRecDepth 20000 in
theorem lf_X9_119 : FLK RX9 119 10 20 false := ⟨RX9, TX9, 27, RX9, ⟨rfl, by decide, rfl, by decide⟩, inTX9, Or.inl ⟨List.mem_append_right _ (List.mem_of_getElem? (i := 697) (by decide +kernel)), rfl⟩, Or.inl rfl⟩
set_option maxRecDepth 20000 in
theorem lc_X9_122 : FLC RX9 122 yX9_setHeap cX9_setHeap 6 (some .int) 1 := ⟨Or.inl ⟨List.mem_append_right _ (List.mem_of_getElem? (i := 841) (by decide +kernel)), rfl⟩, ⟨List.mem_append_right _ (List.mem_of_getElem? (i := 844) (by decide +kernel)), rfl⟩, ⟨List.mem_append_right _ (List.mem_of_getElem? (i := 7) (by decide +kernel)), rfl⟩, ⟨⟨by decide +kernel, by decide +kernel⟩, by decide +kernel⟩⟩
set_option maxRecDepth 20000 in
theorem lv_X9_setHeap : FLV yX9_setHeap 10 := ⟨by decide, by decide +kernel, ⟨List.mem_append_right _ (List.mem_of_getElem? (i := 843) (by decide +kernel)), rfl⟩, ⟨List.mem_append_left _ (List.mem_of_getElem? (i := 46) (by decide +kernel)), rfl⟩⟩
set_option maxRecDepth 20000 in
theorem lt_10_15 : FLT 10 15 .int := ⟨RX9, TX9, 27, tyX9, rfl, by decide +kernel, tyX9_ok, nmX9⟩
set_option maxRecDepth 20000 in
theorem lw_X9_76_X9_pick : FLW yX9_pick RX9 76 10 15 := ⟨RX9, TX9, 27, rfl, Or.inl rfl⟩
set_option maxRecDepth 20000 in
theorem lt_10_20 : FLT 10 20 .int := ⟨RX9, TX9, 27, tyX9, rfl, by decide +kernel, tyX9_ok, nmX9⟩
set_option maxRecDepth 20000 in
theorem lw_X9_119_X9_pick : FLW yX9_pick RX9 119 10 20 := ⟨RX9, TX9, 27, rfl, Or.inl rfl⟩
set_option maxRecDepth 20000 in
theorem lc_X9_125 : FLC RX9 125 yX9_kindOf cX9_kindOf 2 (some .int) 1 := ⟨Or.inl ⟨List.mem_append_right _ (List.mem_of_getElem? (i := 859) (by decide +kernel)), rfl⟩, ⟨List.mem_append_right _ (List.mem_of_getElem? (i := 862) (by decide +kernel)), rfl⟩, ⟨List.mem_append_right _ (List.mem_of_getElem? (i := 7) (by decide +kernel)), rfl⟩, ⟨⟨by decide +kernel, by decide +kernel⟩, by decide +kernel⟩⟩
set_option maxRecDepth 20000 in
theorem lv_X9_kindOf : FLV yX9_kindOf 10 := ⟨by decide, by decide +kernel, ⟨List.mem_append_right _ (List.mem_of_getElem? (i := 861) (by decide +kernel)), rfl⟩, ⟨List.mem_append_left _ (List.mem_of_getElem? (i := 49) (by decide +kernel)), rfl⟩⟩
set_option maxRecDepth 20000 in
theorem lc_X9_128 : FLC RX9 128 yX9_isPick cX9_isPick 2 (some .boolean) 1 := ⟨Or.inl ⟨List.mem_append_right _ (List.mem_of_getElem? (i := 851) (by decide +kernel)), rfl⟩, ⟨List.mem_append_right _ (List.mem_of_getElem? (i := 854) (by decide +kernel)), rfl⟩, ⟨List.mem_append_right _ (List.mem_of_getElem? (i := 7) (by decide +kernel)), rfl⟩, ⟨⟨by decide +kernel, by decide +kernel⟩, by decide +kernel⟩⟩
set_option maxRecDepth 20000 in
theorem lv_X9_isPick : FLV yX9_isPick 10 := ⟨by decide, by decide +kernel, ⟨List.mem_append_right _ (List.mem_of_getElem? (i := 853) (by decide +kernel)), rfl⟩, ⟨List.mem_append_left _ (List.mem_of_getElem? (i := 47) (by decide +kernel)), rfl⟩⟩
set_option maxRecDepth 20000 in
theorem lc_X9_131 : FLC RX9 131 yX9_tells cX9_tells 3 (some .int) 2 := ⟨Or.inl ⟨List.mem_append_right _ (List.mem_of_getElem? (i := 855) (by decide +kernel)), rfl⟩, ⟨List.mem_append_right _ (List.mem_of_getElem? (i := 858) (by decide +kernel)), rfl⟩, ⟨List.mem_append_right _ (List.mem_of_getElem? (i := 7) (by decide +kernel)), rfl⟩, ⟨⟨by decide +kernel, by decide +kernel⟩, by decide +kernel⟩⟩
set_option maxRecDepth 20000 in
theorem lv_X9_tells : FLV yX9_tells 10 := ⟨by decide, by decide +kernel, ⟨List.mem_append_right _ (List.mem_of_getElem? (i := 857) (by decide +kernel)), rfl⟩, ⟨List.mem_append_left _ (List.mem_of_getElem? (i := 48) (by decide +kernel)), rfl⟩⟩
set_option maxRecDepth 20000 in
theorem lc_X9_134 : FLC RX9 134 yX9_bits cX9_bits 2 (some .int) 1 := ⟨Or.inl ⟨List.mem_append_right _ (List.mem_of_getElem? (i := 891) (by decide +kernel)), rfl⟩, ⟨List.mem_append_right _ (List.mem_of_getElem? (i := 893) (by decide +kernel)), rfl⟩, ⟨List.mem_append_right _ (List.mem_of_getElem? (i := 7) (by decide +kernel)), rfl⟩, ⟨⟨by decide +kernel, by decide +kernel⟩, by decide +kernel⟩⟩
set_option maxRecDepth 20000 in
theorem ls_X9_bits : FLS yX9_bits := ⟨List.mem_append_right _ (List.mem_of_getElem? (i := 892) (by decide +kernel)), rfl⟩
set_option maxRecDepth 20000 in
theorem lc_X9_137 : FLC RX9 137 yX9_has cX9_has 2 (some .boolean) 1 := ⟨Or.inl ⟨List.mem_append_right _ (List.mem_of_getElem? (i := 883) (by decide +kernel)), rfl⟩, ⟨List.mem_append_right _ (List.mem_of_getElem? (i := 886) (by decide +kernel)), rfl⟩, ⟨List.mem_append_right _ (List.mem_of_getElem? (i := 7) (by decide +kernel)), rfl⟩, ⟨⟨by decide +kernel, by decide +kernel⟩, by decide +kernel⟩⟩
set_option maxRecDepth 20000 in
theorem lv_X9_has : FLV yX9_has 10 := ⟨by decide, by decide +kernel, ⟨List.mem_append_right _ (List.mem_of_getElem? (i := 885) (by decide +kernel)), rfl⟩, ⟨List.mem_append_left _ (List.mem_of_getElem? (i := 53) (by decide +kernel)), rfl⟩⟩
set_option maxRecDepth 20000 in
theorem lc_X9_140 : FLC RX9 140 yX9_sizeAt cX9_sizeAt 4 (some .int) 2 := ⟨Or.inl ⟨List.mem_append_right _ (List.mem_of_getElem? (i := 887) (by decide +kernel)), rfl⟩, ⟨List.mem_append_right _ (List.mem_of_getElem? (i := 890) (by decide +kernel)), rfl⟩, ⟨List.mem_append_right _ (List.mem_of_getElem? (i := 7) (by decide +kernel)), rfl⟩, ⟨⟨by decide +kernel, by decide +kernel⟩, by decide +kernel⟩⟩
set_option maxRecDepth 20000 in
theorem lv_X9_sizeAt : FLV yX9_sizeAt 10 := ⟨by decide, by decide +kernel, ⟨List.mem_append_right _ (List.mem_of_getElem? (i := 889) (by decide +kernel)), rfl⟩, ⟨List.mem_append_left _ (List.mem_of_getElem? (i := 54) (by decide +kernel)), rfl⟩⟩
set_option maxRecDepth 20000 in
theorem lc_X9_143 : FLC RX9 143 yX9_sizeOf cX9_sizeOf 6 (some .int) 2 := ⟨Or.inl ⟨List.mem_append_right _ (List.mem_of_getElem? (i := 879) (by decide +kernel)), rfl⟩, ⟨List.mem_append_right _ (List.mem_of_getElem? (i := 882) (by decide +kernel)), rfl⟩, ⟨List.mem_append_right _ (List.mem_of_getElem? (i := 7) (by decide +kernel)), rfl⟩, ⟨⟨by decide +kernel, by decide +kernel⟩, by decide +kernel⟩⟩
set_option maxRecDepth 20000 in
theorem lv_X9_sizeOf : FLV yX9_sizeOf 10 := ⟨by decide, by decide +kernel, ⟨List.mem_append_right _ (List.mem_of_getElem? (i := 881) (by decide +kernel)), rfl⟩, ⟨List.mem_append_left _ (List.mem_of_getElem? (i := 52) (by decide +kernel)), rfl⟩⟩
set_option maxRecDepth 20000 in
theorem lc_X9_147 : FLC RX9 147 yX9_isQuake cX9_isQuake 2 (some .boolean) 1 := ⟨Or.inl ⟨List.mem_append_right _ (List.mem_of_getElem? (i := 871) (by decide +kernel)), rfl⟩, ⟨List.mem_append_right _ (List.mem_of_getElem? (i := 874) (by decide +kernel)), rfl⟩, ⟨List.mem_append_right _ (List.mem_of_getElem? (i := 7) (by decide +kernel)), rfl⟩, ⟨⟨by decide +kernel, by decide +kernel⟩, by decide +kernel⟩⟩
set_option maxRecDepth 20000 in
theorem lv_X9_isQuake : FLV yX9_isQuake 10 := ⟨by decide, by decide +kernel, ⟨List.mem_append_right _ (List.mem_of_getElem? (i := 873) (by decide +kernel)), rfl⟩, ⟨List.mem_append_left _ (List.mem_of_getElem? (i := 50) (by decide +kernel)), rfl⟩⟩
set_option maxRecDepth 20000 in
theorem lc_X9_150 : FLC RX9 150 yX9_tellsQuake cX9_tellsQuake 6 (some .int) 2 := ⟨Or.inl ⟨List.mem_append_right _ (List.mem_of_getElem? (i := 875) (by decide +kernel)), rfl⟩, ⟨List.mem_append_right _ (List.mem_of_getElem? (i := 878) (by decide +kernel)), rfl⟩, ⟨List.mem_append_right _ (List.mem_of_getElem? (i := 7) (by decide +kernel)), rfl⟩, ⟨⟨by decide +kernel, by decide +kernel⟩, by decide +kernel⟩⟩
set_option maxRecDepth 20000 in
theorem lv_X9_tellsQuake : FLV yX9_tellsQuake 10 := ⟨by decide, by decide +kernel, ⟨List.mem_append_right _ (List.mem_of_getElem? (i := 877) (by decide +kernel)), rfl⟩, ⟨List.mem_append_left _ (List.mem_of_getElem? (i := 51) (by decide +kernel)), rfl⟩⟩
set_option maxRecDepth 20000 in
theorem lw_X9_105_X9_time : FLW yX9_time RX9 105 10 2 := ⟨RX9, TX9, 27, rfl, Or.inl rfl⟩
set_option maxRecDepth 20000 in
theorem lc_X9_153 : FLC RX9 153 yX9_isTown cX9_isTown 2 (some .boolean) 1 := ⟨Or.inl ⟨List.mem_append_right _ (List.mem_of_getElem? (i := 914) (by decide +kernel)), rfl⟩, ⟨List.mem_append_right _ (List.mem_of_getElem? (i := 917) (by decide +kernel)), rfl⟩, ⟨List.mem_append_right _ (List.mem_of_getElem? (i := 7) (by decide +kernel)), rfl⟩, ⟨⟨by decide +kernel, by decide +kernel⟩, by decide +kernel⟩⟩
set_option maxRecDepth 20000 in
theorem lv_X9_isTown : FLV yX9_isTown 10 := ⟨by decide, by decide +kernel, ⟨List.mem_append_right _ (List.mem_of_getElem? (i := 916) (by decide +kernel)), rfl⟩, ⟨List.mem_append_left _ (List.mem_of_getElem? (i := 56) (by decide +kernel)), rfl⟩⟩
set_option maxRecDepth 20000 in
theorem lc_X9_156 : FLC RX9 156 yX9_areTownAndQuake cX9_areTownAndQuake 3 (some .boolean) 2 := ⟨Or.inl ⟨List.mem_append_right _ (List.mem_of_getElem? (i := 910) (by decide +kernel)), rfl⟩, ⟨List.mem_append_right _ (List.mem_of_getElem? (i := 913) (by decide +kernel)), rfl⟩, ⟨List.mem_append_right _ (List.mem_of_getElem? (i := 7) (by decide +kernel)), rfl⟩, ⟨⟨by decide +kernel, by decide +kernel⟩, by decide +kernel⟩⟩
set_option maxRecDepth 20000 in
theorem lv_X9_areTownAndQuake : FLV yX9_areTownAndQuake 10 := ⟨by decide, by decide +kernel, ⟨List.mem_append_right _ (List.mem_of_getElem? (i := 912) (by decide +kernel)), rfl⟩, ⟨List.mem_append_left _ (List.mem_of_getElem? (i := 55) (by decide +kernel)), rfl⟩⟩
set_option maxRecDepth 20000 in
theorem lc_X9_159 : FLC RX9 159 yX9_feels cX9_feels 7 (some .int) 2 := ⟨Or.inl ⟨List.mem_append_right _ (List.mem_of_getElem? (i := 918) (by decide +kernel)), rfl⟩, ⟨List.mem_append_right _ (List.mem_of_getElem? (i := 921) (by decide +kernel)), rfl⟩, ⟨List.mem_append_right _ (List.mem_of_getElem? (i := 7) (by decide +kernel)), rfl⟩, ⟨⟨by decide +kernel, by decide +kernel⟩, by decide +kernel⟩⟩
set_option maxRecDepth 20000 in
theorem lv_X9_feels : FLV yX9_feels 10 := ⟨by decide, by decide +kernel, ⟨List.mem_append_right _ (List.mem_of_getElem? (i := 920) (by decide +kernel)), rfl⟩, ⟨List.mem_append_left _ (List.mem_of_getElem? (i := 57) (by decide +kernel)), rfl⟩⟩
set_option maxRecDepth 20000 in
theorem lf_X9_162 : FLK RX9 162 10 24 false := ⟨RX9, TX9, 27, RX9, ⟨rfl, by decide, rfl, by decide⟩, inTX9, Or.inl ⟨List.mem_append_right _ (List.mem_of_getElem? (i := 701) (by decide +kernel)), rfl⟩, Or.inl rfl⟩
set_option maxRecDepth 20000 in
theorem lt_10_24 : FLT 10 24 .int := ⟨RX9, TX9, 27, tyX9, rfl, by decide +kernel, tyX9_ok, nmX9⟩
set_option maxRecDepth 20000 in
theorem lw_X9_162_X9_say : FLW yX9_say RX9 162 10 24 := ⟨RX9, TX9, 27, rfl, Or.inl rfl⟩
set_option maxRecDepth 20000 in
theorem lc_X9_165 : FLC RX9 165 yX9_say cX9_say 4 none 3 := ⟨Or.inl ⟨List.mem_append_right _ (List.mem_of_getElem? (i := 930) (by decide +kernel)), rfl⟩, ⟨List.mem_append_right _ (List.mem_of_getElem? (i := 933) (by decide +kernel)), rfl⟩, ⟨List.mem_append_right _ (List.mem_of_getElem? (i := 7) (by decide +kernel)), rfl⟩, ⟨⟨by decide +kernel, by decide +kernel⟩, by decide +kernel⟩⟩
set_option maxRecDepth 20000 in
theorem lv_X9_say : FLV yX9_say 10 := ⟨by decide, by decide +kernel, ⟨List.mem_append_right _ (List.mem_of_getElem? (i := 932) (by decide +kernel)), rfl⟩, ⟨List.mem_append_left _ (List.mem_of_getElem? (i := 58) (by decide +kernel)), rfl⟩⟩
set_option maxRecDepth 20000 in
theorem lc_X9_169 : FLC RX9 169 yX9_comes cX9_comes 6 (some .int) 2 := ⟨Or.inl ⟨List.mem_append_right _ (List.mem_of_getElem? (i := 950) (by decide +kernel)), rfl⟩, ⟨List.mem_append_right _ (List.mem_of_getElem? (i := 953) (by decide +kernel)), rfl⟩, ⟨List.mem_append_right _ (List.mem_of_getElem? (i := 7) (by decide +kernel)), rfl⟩, ⟨⟨by decide +kernel, by decide +kernel⟩, by decide +kernel⟩⟩
set_option maxRecDepth 20000 in
theorem lv_X9_comes : FLV yX9_comes 10 := ⟨by decide, by decide +kernel, ⟨List.mem_append_right _ (List.mem_of_getElem? (i := 952) (by decide +kernel)), rfl⟩, ⟨List.mem_append_left _ (List.mem_of_getElem? (i := 59) (by decide +kernel)), rfl⟩⟩
set_option maxRecDepth 20000 in
theorem lk_X9_172 : Cond.constantLong RX9 172 527 ∈ lw_tbl := List.mem_append_right _ (List.mem_of_getElem? (i := 978) (by decide +kernel))
set_option maxRecDepth 20000 in
theorem lk_X9_174 : Cond.constantLong RX9 174 31 ∈ lw_tbl := List.mem_append_right _ (List.mem_of_getElem? (i := 979) (by decide +kernel))
/-! by program: what the methods do, and that their bytecode does it -/
/-! X9_init -/
noncomputable def f_X9_init_157_b (z : Nat) (p0 : Option Nm) (rec : Int32 → Hp → Option (Int32 × Hp)) (v1 : Int32) (g : Hp) : Option (Int32 × Hp) :=
  if 10 ≤ v1 then (some (v1, g))
  else ((getR p0 10 11 g).bind fun x37 =>
    (astI x37 v1 (-9) g).bind fun g38 =>
    rec (v1 + 1) g38)
noncomputable def f_X9_init_157_L (z : Nat) (p0 : Option Nm) : Nat → Int32 → Hp → Option (Int32 × Hp)
  | 0, _, _ => none
  | n + 1, v1, g => f_X9_init_157_b z p0 (f_X9_init_157_L z p0 n) v1 g
noncomputable def f_X9_init_179_b (z : Nat) (p0 : Option Nm) (rec : Int32 → Hp → Option (Int32 × Hp)) (v1 : Int32) (g : Hp) : Option (Int32 × Hp) :=
  if 5 ≤ v1 then (some (v1, g))
  else ((getR p0 10 13 g).bind fun x40 =>
    (astI x40 v1 (4 * v1) g).bind fun g41 =>
    rec (v1 + 1) g41)
noncomputable def f_X9_init_179_L (z : Nat) (p0 : Option Nm) : Nat → Int32 → Hp → Option (Int32 × Hp)
  | 0, _, _ => none
  | n + 1, v1, g => f_X9_init_179_b z p0 (f_X9_init_179_L z p0 n) v1 g
noncomputable def f_X9_init (z : Nat) (t : Option Nm) (g : Hp) : Option (Unit × Hp) :=
  (nnu t).bind fun _ =>
  (mkI (40, 0) 6 g).bind fun q1 =>
  (putR t 10 1 q1.1 q1.2).bind fun g2 =>
  (putI t 10 3 100 g2).bind fun g3 =>
  (putI t 10 4 2 g3).bind fun g4 =>
  (mkI (41, 0) 10 g4).bind fun q5 =>
  (putR t 10 7 q5.1 q5.2).bind fun g6 =>
  (mkZ (60, 0) 10 g6).bind fun q7 =>
  (putR t 10 8 q7.1 q7.2).bind fun g8 =>
  (mkI (42, 0) 6 g8).bind fun q9 =>
  (putR t 10 10 q9.1 q9.2).bind fun g10 =>
  (mkI (43, 0) 10 g10).bind fun q11 =>
  (putR t 10 11 q11.1 q11.2).bind fun g12 =>
  (mkI (44, 0) 300 g12).bind fun q13 =>
  (putR t 10 12 q13.1 q13.2).bind fun g14 =>
  (mkI (45, 0) 6 g14).bind fun q15 =>
  (putR t 10 13 q15.1 q15.2).bind fun g16 =>
  (mkI (46, 0) 30 g16).bind fun q17 =>
  (putR t 10 14 q17.1 q17.2).bind fun g18 =>
  (mkI (47, 0) 60 g18).bind fun q19 =>
  (putR t 10 16 q19.1 q19.2).bind fun g20 =>
  (mkI (48, 0) 60 g20).bind fun q21 =>
  (putR t 10 17 q21.1 q21.2).bind fun g22 =>
  (mkI (49, 0) 60 g22).bind fun q23 =>
  (putR t 10 18 q23.1 q23.2).bind fun g24 =>
  (mkI (50, 0) 60 g24).bind fun q25 =>
  (putR t 10 19 q25.1 q25.2).bind fun g26 =>
  (mkI (51, 0) 5 g26).bind fun q27 =>
  (putR t 10 21 q27.1 q27.2).bind fun g28 =>
  (mkI (52, 0) 144 g28).bind fun q29 =>
  (putR t 10 22 q29.1 q29.2).bind fun g30 =>
  (mkI (53, 0) 144 g30).bind fun q31 =>
  (putR t 10 23 q31.1 q31.2).bind fun g32 =>
  (mkI (54, 0) 1600 g32).bind fun q33 =>
  (putR t 10 25 q33.1 q33.2).bind fun g34 =>
  (mkI (55, 0) 150 g34).bind fun q35 =>
  (putR t 10 26 q35.1 q35.2).bind fun g36 =>
  (f_X9_init_157_L z t z 0 g36).bind fun q39 =>
  (f_X9_init_179_L z t z 1 q39.2).bind fun q42 =>
  (getR t 10 13 q42.2).bind fun x43 =>
  (astI x43 5 61 q42.2).bind fun g44 =>
  some ((), g44)
set_option maxRecDepth 20000 in
theorem b_X9_init_157 {X : Xt Unit} (hX : IsM rtV X) (z : Nat) (p0 : Option Nm) (rec : Int32 → Hp → Option (Int32 × Hp)) (K : Int32 × Hp → Option (Unit × Hp)) (he : ∀ (v1 : Int32) (g : Hp), J yX9_init cX9_init 2 none 1 12 X g 177 [(1, sI v1), (0, sR p0)] [] (K (v1, g))) (hr : ∀ (v1 : Int32) (g : Hp), J yX9_init cX9_init 2 none 1 12 X g 157 [(1, sI v1), (0, sR p0)] [] ((rec v1 g).bind K)) (v1 : Int32) (g : Hp) : J yX9_init cX9_init 2 none 1 12 X g 157 [(1, sI v1), (0, sR p0)] [] ((f_X9_init_157_b z p0 rec v1 g).bind K) := by
  unfold f_X9_init_157_b
  refine j_iload_n (pc := 157) 0 dX9_init_157 rfl rfl ?_
  refine j_bipush (pc := 158) (v := 10) dX9_init_158 (by decide) ?_
  refine j_icmp_ge (pc := 160) (tgt := 177) dX9_init_160 (by decide) bi (fun hc => ?_) (fun hc => ?_)
  · exact he v1 g
  · refine j_aload_n (pc := 163) 1 dX9_init_163 rfl rfl ?_
    refine j_getR (pc := 164) (own := RX9) dX9_init_164 lf_X9_30 rfl bb (fun x37 => ?_)
    refine j_iload_n (pc := 167) 0 dX9_init_167 rfl rfl ?_
    refine j_bipush (pc := 168) (v := (-9)) dX9_init_168 (by decide) ?_
    refine j_astI (pc := 170) dX9_init_170 bb (fun g38 => ?_)
    refine j_iinc (pc := 171) (v := (v1 + 1)) (lv' := [(1, sI (v1 + 1)), (0, sR p0)]) 0 dX9_init_171 rfl rfl (by decide) rfl ?_
    refine j_goto (pc := 174) (tgt := 157) dX9_init_174 (by decide) ?_
    exact hr (v1 + 1) g38
set_option maxRecDepth 20000 in
theorem l_X9_init_157 {X : Xt Unit} (hX : IsM rtV X) (z : Nat) (p0 : Option Nm) (K : Int32 × Hp → Option (Unit × Hp)) (he : ∀ (v1 : Int32) (g : Hp), J yX9_init cX9_init 2 none 1 12 X g 177 [(1, sI v1), (0, sR p0)] [] (K (v1, g))) : ∀ (n : Nat) (v1 : Int32) (g : Hp), J yX9_init cX9_init 2 none 1 12 X g 157 [(1, sI v1), (0, sR p0)] [] ((f_X9_init_157_L z p0 n v1 g).bind K)
  | 0, _, _ => J.eq rfl J.none
  | n + 1, v1, g => b_X9_init_157 hX z p0 _ K he (fun v1 g => l_X9_init_157 hX z p0 K he n v1 g) v1 g
set_option maxRecDepth 20000 in
theorem b_X9_init_179 {X : Xt Unit} (hX : IsM rtV X) (z : Nat) (p0 : Option Nm) (rec : Int32 → Hp → Option (Int32 × Hp)) (K : Int32 × Hp → Option (Unit × Hp)) (he : ∀ (v1 : Int32) (g : Hp), J yX9_init cX9_init 2 none 1 12 X g 199 [(1, sI v1), (0, sR p0)] [] (K (v1, g))) (hr : ∀ (v1 : Int32) (g : Hp), J yX9_init cX9_init 2 none 1 12 X g 179 [(1, sI v1), (0, sR p0)] [] ((rec v1 g).bind K)) (v1 : Int32) (g : Hp) : J yX9_init cX9_init 2 none 1 12 X g 179 [(1, sI v1), (0, sR p0)] [] ((f_X9_init_179_b z p0 rec v1 g).bind K) := by
  unfold f_X9_init_179_b
  refine j_iload_n (pc := 179) 0 dX9_init_179 rfl rfl ?_
  refine j_iconst (pc := 180) (v := 5) dX9_init_180 (by decide) ?_
  refine j_icmp_ge (pc := 181) (tgt := 199) dX9_init_181 (by decide) bi (fun hc => ?_) (fun hc => ?_)
  · exact he v1 g
  · refine j_aload_n (pc := 184) 1 dX9_init_184 rfl rfl ?_
    refine j_getR (pc := 185) (own := RX9) dX9_init_185 lf_X9_36 rfl bb (fun x40 => ?_)
    refine j_iload_n (pc := 188) 0 dX9_init_188 rfl rfl ?_
    refine j_iconst (pc := 189) (v := 4) dX9_init_189 (by decide) ?_
    refine j_iload_n (pc := 190) 0 dX9_init_190 rfl rfl ?_
    refine j_imul (pc := 191) dX9_init_191 ?_
    refine j_astI (pc := 192) dX9_init_192 bb (fun g41 => ?_)
    refine j_iinc (pc := 193) (v := (v1 + 1)) (lv' := [(1, sI (v1 + 1)), (0, sR p0)]) 0 dX9_init_193 rfl rfl (by decide) rfl ?_
    refine j_goto (pc := 196) (tgt := 179) dX9_init_196 (by decide) ?_
    exact hr (v1 + 1) g41
set_option maxRecDepth 20000 in
theorem l_X9_init_179 {X : Xt Unit} (hX : IsM rtV X) (z : Nat) (p0 : Option Nm) (K : Int32 × Hp → Option (Unit × Hp)) (he : ∀ (v1 : Int32) (g : Hp), J yX9_init cX9_init 2 none 1 12 X g 199 [(1, sI v1), (0, sR p0)] [] (K (v1, g))) : ∀ (n : Nat) (v1 : Int32) (g : Hp), J yX9_init cX9_init 2 none 1 12 X g 179 [(1, sI v1), (0, sR p0)] [] ((f_X9_init_179_L z p0 n v1 g).bind K)
  | 0, _, _ => J.eq rfl J.none
  | n + 1, v1, g => b_X9_init_179 hX z p0 _ K he (fun v1 g => l_X9_init_179 hX z p0 K he n v1 g) v1 g
set_option maxRecDepth 20000 in
theorem m_X9_init (z : Nat) (t : Option Nm) (g : Hp) : FM yX9_init cX9_init 2 none 1 12 rtV [sR t] g (f_X9_init z t g) := by
  refine FM.entry (by decide +kernel) (Nat.le_of_ble_eq_true rfl) (fun X hX => ?_)
  unfold f_X9_init
  show J yX9_init cX9_init 2 none 1 12 X g 0 [(0, sR t)] [] _
  refine j_aload_n (pc := 0) 0 dX9_init_0 rfl rfl ?_
  refine b_oinit (pc := 1) (own := RX9) dX9_init_1 lo_X9_1 rfl ⟨Nat.le_of_ble_eq_true rfl, Nat.le_of_ble_eq_true rfl⟩ rfl ?_
  refine j_aload_n (pc := 4) 0 dX9_init_4 rfl rfl ?_
  refine j_bipush (pc := 5) (v := 6) dX9_init_5 (by decide) ?_
  refine j_mkI (pc := 7) dX9_init_7 lA_int rfl (fun q1r q1g => ?_)
  refine j_putR (pc := 9) (own := RX9) dX9_init_9 lf_X9_7 lt_10_1 rfl lw_X9_7_X9_init rfl rfl (fun g2 => ?_)
  refine j_aload_n (pc := 12) 0 dX9_init_12 rfl rfl ?_
  refine j_bipush (pc := 13) (v := 100) dX9_init_13 (by decide) ?_
  refine j_putI (pc := 15) (own := RX9) dX9_init_15 lf_X9_13 lt_10_3 lw_X9_13_X9_init rfl rfl (fun g3 => ?_)
  refine j_aload_n (pc := 18) 0 dX9_init_18 rfl rfl ?_
  refine j_iconst (pc := 19) (v := 2) dX9_init_19 (by decide) ?_
  refine j_putI (pc := 20) (own := RX9) dX9_init_20 lf_X9_17 lt_10_4 lw_X9_17_X9_init rfl rfl (fun g4 => ?_)
  refine j_aload_n (pc := 23) 0 dX9_init_23 rfl rfl ?_
  refine j_bipush (pc := 24) (v := 10) dX9_init_24 (by decide) ?_
  refine j_mkI (pc := 26) dX9_init_26 lA_int rfl (fun q5r q5g => ?_)
  refine j_putR (pc := 28) (own := RX9) dX9_init_28 lf_X9_20 lt_10_7 rfl lw_X9_20_X9_init rfl rfl (fun g6 => ?_)
  refine j_aload_n (pc := 31) 0 dX9_init_31 rfl rfl ?_
  refine j_bipush (pc := 32) (v := 10) dX9_init_32 (by decide) ?_
  refine j_mkZ (pc := 34) dX9_init_34 lA_boolean rfl (fun q7r q7g => ?_)
  refine j_putR (pc := 36) (own := RX9) dX9_init_36 lf_X9_23 lt_10_8 rfl lw_X9_23_X9_init rfl rfl (fun g8 => ?_)
  refine j_aload_n (pc := 39) 0 dX9_init_39 rfl rfl ?_
  refine j_bipush (pc := 40) (v := 6) dX9_init_40 (by decide) ?_
  refine j_mkI (pc := 42) dX9_init_42 lA_int rfl (fun q9r q9g => ?_)
  refine j_putR (pc := 44) (own := RX9) dX9_init_44 lf_X9_27 lt_10_10 rfl lw_X9_27_X9_init rfl rfl (fun g10 => ?_)
  refine j_aload_n (pc := 47) 0 dX9_init_47 rfl rfl ?_
  refine j_bipush (pc := 48) (v := 10) dX9_init_48 (by decide) ?_
  refine j_mkI (pc := 50) dX9_init_50 lA_int rfl (fun q11r q11g => ?_)
  refine j_putR (pc := 52) (own := RX9) dX9_init_52 lf_X9_30 lt_10_11 rfl lw_X9_30_X9_init rfl rfl (fun g12 => ?_)
  refine j_aload_n (pc := 55) 0 dX9_init_55 rfl rfl ?_
  refine j_sipush (pc := 56) (v := 300) dX9_init_56 (by decide) ?_
  refine j_mkI (pc := 59) dX9_init_59 lA_int rfl (fun q13r q13g => ?_)
  refine j_putR (pc := 61) (own := RX9) dX9_init_61 lf_X9_33 lt_10_12 rfl lw_X9_33_X9_init rfl rfl (fun g14 => ?_)
  refine j_aload_n (pc := 64) 0 dX9_init_64 rfl rfl ?_
  refine j_bipush (pc := 65) (v := 6) dX9_init_65 (by decide) ?_
  refine j_mkI (pc := 67) dX9_init_67 lA_int rfl (fun q15r q15g => ?_)
  refine j_putR (pc := 69) (own := RX9) dX9_init_69 lf_X9_36 lt_10_13 rfl lw_X9_36_X9_init rfl rfl (fun g16 => ?_)
  refine j_aload_n (pc := 72) 0 dX9_init_72 rfl rfl ?_
  refine j_bipush (pc := 73) (v := 30) dX9_init_73 (by decide) ?_
  refine j_mkI (pc := 75) dX9_init_75 lA_int rfl (fun q17r q17g => ?_)
  refine j_putR (pc := 77) (own := RX9) dX9_init_77 lf_X9_39 lt_10_14 rfl lw_X9_39_X9_init rfl rfl (fun g18 => ?_)
  refine j_aload_n (pc := 80) 0 dX9_init_80 rfl rfl ?_
  refine j_bipush (pc := 81) (v := 60) dX9_init_81 (by decide) ?_
  refine j_mkI (pc := 83) dX9_init_83 lA_int rfl (fun q19r q19g => ?_)
  refine j_putR (pc := 85) (own := RX9) dX9_init_85 lf_X9_42 lt_10_16 rfl lw_X9_42_X9_init rfl rfl (fun g20 => ?_)
  refine j_aload_n (pc := 88) 0 dX9_init_88 rfl rfl ?_
  refine j_bipush (pc := 89) (v := 60) dX9_init_89 (by decide) ?_
  refine j_mkI (pc := 91) dX9_init_91 lA_int rfl (fun q21r q21g => ?_)
  refine j_putR (pc := 93) (own := RX9) dX9_init_93 lf_X9_45 lt_10_17 rfl lw_X9_45_X9_init rfl rfl (fun g22 => ?_)
  refine j_aload_n (pc := 96) 0 dX9_init_96 rfl rfl ?_
  refine j_bipush (pc := 97) (v := 60) dX9_init_97 (by decide) ?_
  refine j_mkI (pc := 99) dX9_init_99 lA_int rfl (fun q23r q23g => ?_)
  refine j_putR (pc := 101) (own := RX9) dX9_init_101 lf_X9_48 lt_10_18 rfl lw_X9_48_X9_init rfl rfl (fun g24 => ?_)
  refine j_aload_n (pc := 104) 0 dX9_init_104 rfl rfl ?_
  refine j_bipush (pc := 105) (v := 60) dX9_init_105 (by decide) ?_
  refine j_mkI (pc := 107) dX9_init_107 lA_int rfl (fun q25r q25g => ?_)
  refine j_putR (pc := 109) (own := RX9) dX9_init_109 lf_X9_51 lt_10_19 rfl lw_X9_51_X9_init rfl rfl (fun g26 => ?_)
  refine j_aload_n (pc := 112) 0 dX9_init_112 rfl rfl ?_
  refine j_iconst (pc := 113) (v := 5) dX9_init_113 (by decide) ?_
  refine j_mkI (pc := 114) dX9_init_114 lA_int rfl (fun q27r q27g => ?_)
  refine j_putR (pc := 116) (own := RX9) dX9_init_116 lf_X9_54 lt_10_21 rfl lw_X9_54_X9_init rfl rfl (fun g28 => ?_)
  refine j_aload_n (pc := 119) 0 dX9_init_119 rfl rfl ?_
  refine j_sipush (pc := 120) (v := 144) dX9_init_120 (by decide) ?_
  refine j_mkI (pc := 123) dX9_init_123 lA_int rfl (fun q29r q29g => ?_)
  refine j_putR (pc := 125) (own := RX9) dX9_init_125 lf_X9_57 lt_10_22 rfl lw_X9_57_X9_init rfl rfl (fun g30 => ?_)
  refine j_aload_n (pc := 128) 0 dX9_init_128 rfl rfl ?_
  refine j_sipush (pc := 129) (v := 144) dX9_init_129 (by decide) ?_
  refine j_mkI (pc := 132) dX9_init_132 lA_int rfl (fun q31r q31g => ?_)
  refine j_putR (pc := 134) (own := RX9) dX9_init_134 lf_X9_60 lt_10_23 rfl lw_X9_60_X9_init rfl rfl (fun g32 => ?_)
  refine j_aload_n (pc := 137) 0 dX9_init_137 rfl rfl ?_
  refine j_sipush (pc := 138) (v := 1600) dX9_init_138 (by decide) ?_
  refine j_mkI (pc := 141) dX9_init_141 lA_int rfl (fun q33r q33g => ?_)
  refine j_putR (pc := 143) (own := RX9) dX9_init_143 lf_X9_63 lt_10_25 rfl lw_X9_63_X9_init rfl rfl (fun g34 => ?_)
  refine j_aload_n (pc := 146) 0 dX9_init_146 rfl rfl ?_
  refine j_sipush (pc := 147) (v := 150) dX9_init_147 (by decide) ?_
  refine j_mkI (pc := 150) dX9_init_150 lA_int rfl (fun q35r q35g => ?_)
  refine j_putR (pc := 152) (own := RX9) dX9_init_152 lf_X9_66 lt_10_26 rfl lw_X9_66_X9_init rfl rfl (fun g36 => ?_)
  refine j_iconst (pc := 155) (v := 0) dX9_init_155 (by decide) ?_
  refine j_istore_n (pc := 156) (lv' := [(1, sI 0), (0, sR t)]) dX9_init_156 rfl (by decide) rfl ?_
  refine l_X9_init_157 hX z t _ (fun q39_0 q39_g => ?_) z 0 g36
  refine j_iconst (pc := 177) (v := 1) dX9_init_177 (by decide) ?_
  refine j_istore_n (pc := 178) (lv' := [(1, sI 1), (0, sR t)]) dX9_init_178 rfl (by decide) rfl ?_
  refine l_X9_init_179 hX z t _ (fun q42_0 q42_g => ?_) z 1 q39_g
  refine j_aload_n (pc := 199) 1 dX9_init_199 rfl rfl ?_
  refine j_getR (pc := 200) (own := RX9) dX9_init_200 lf_X9_36 rfl rfl (fun x43 => ?_)
  refine j_iconst (pc := 203) (v := 5) dX9_init_203 (by decide) ?_
  refine j_bipush (pc := 204) (v := 61) dX9_init_204 (by decide) ?_
  refine j_astI (pc := 206) dX9_init_206 rfl (fun g44 => ?_)
  exact j_return dX9_init_207 hX rfl rfl
/-! X9_in -/
noncomputable def f_X9_in (z : Nat) (a0 : Int32) (a1 : Int32) (a2 : Int32) (g : Hp) : Option (Int32 × Hp) :=
  if a0 < a1 then (rtZ 0 g)
  else (if a2 < a0 then (rtZ 0 g)
    else (rtZ 1 g))
set_option maxRecDepth 20000 in
theorem m_X9_in (z : Nat) (a0 : Int32) (a1 : Int32) (a2 : Int32) (g : Hp) : FM yX9_in cX9_in 3 (some .boolean) 0 0 rtI [sI a0, sI a1, sI a2] g (f_X9_in z a0 a1 a2 g) := by
  refine FM.entry (by decide +kernel) (Nat.le_of_ble_eq_true rfl) (fun X hX => ?_)
  unfold f_X9_in
  show J yX9_in cX9_in 3 (some .boolean) 0 0 X g 0 [(0, sI a0), (1, sI a1), (2, sI a2)] [] _
  refine j_iload_n (pc := 0) 0 dX9_in_0 rfl rfl ?_
  refine j_iload_n (pc := 1) 1 dX9_in_1 rfl rfl ?_
  refine j_icmp_lt (pc := 2) (tgt := 14) dX9_in_2 (by decide) rfl (fun hc => ?_) (fun hc => ?_)
  · refine j_iconst (pc := 14) (v := 0) dX9_in_14 (by decide) ?_
    exact j_zreturn dX9_in_15 hX rfl rfl
  · refine j_iload_n (pc := 5) 0 dX9_in_5 rfl rfl ?_
    refine j_iload_n (pc := 6) 2 dX9_in_6 rfl rfl ?_
    refine j_icmp_gt (pc := 7) (tgt := 14) dX9_in_7 (by decide) rfl (fun hc => ?_) (fun hc => ?_)
    · refine j_iconst (pc := 14) (v := 0) dX9_in_14 (by decide) ?_
      exact j_zreturn dX9_in_15 hX rfl rfl
    · refine j_iconst (pc := 10) (v := 1) dX9_in_10 (by decide) ?_
      refine j_goto (pc := 11) (tgt := 15) dX9_in_11 (by decide) ?_
      exact j_zreturn dX9_in_15 hX rfl rfl
/-! X9_meets -/
noncomputable def f_X9_meets (z : Nat) (t : Option Nm) (a0 : Int32) (g : Hp) : Option (Int32 × Hp) :=
  (putI t 10 0 a0 g).bind fun g1 =>
  (getR t 10 1 g1).bind fun x2 =>
  (aldI x2 a0 g1).bind fun x3 =>
  (astI x2 a0 (x3 + 1) g1).bind fun g4 =>
  some ((-3), g4)
set_option maxRecDepth 20000 in
theorem m_X9_meets (z : Nat) (t : Option Nm) (a0 : Int32) (g : Hp) : FM yX9_meets cX9_meets 2 (some .int) 0 0 rtI [sR t, sI a0] g (f_X9_meets z t a0 g) := by
  refine FM.entry (by decide +kernel) (Nat.le_of_ble_eq_true rfl) (fun X hX => ?_)
  unfold f_X9_meets
  show J yX9_meets cX9_meets 2 (some .int) 0 0 X g 0 [(0, sR t), (1, sI a0)] [] _
  refine j_aload_n (pc := 0) 0 dX9_meets_0 rfl rfl ?_
  refine j_iload_n (pc := 1) 1 dX9_meets_1 rfl rfl ?_
  refine j_putI (pc := 2) (own := RX9) dX9_meets_2 lf_X9_69 lt_10_0 lw_X9_69_X9_meets rfl rfl (fun g1 => ?_)
  refine j_aload_n (pc := 5) 0 dX9_meets_5 rfl rfl ?_
  refine j_getR (pc := 6) (own := RX9) dX9_meets_6 lf_X9_7 rfl rfl (fun x2 => ?_)
  refine j_iload_n (pc := 9) 1 dX9_meets_9 rfl rfl ?_
  refine j_dup2 (pc := 10) dX9_meets_10 rfl rfl ?_
  refine j_aldI (pc := 11) dX9_meets_11 rfl (fun x3 => ?_)
  refine j_iconst (pc := 12) (v := 1) dX9_meets_12 (by decide) ?_
  refine j_iadd (pc := 13) dX9_meets_13 ?_
  refine j_astI (pc := 14) dX9_meets_14 rfl (fun g4 => ?_)
  refine j_bipush (pc := 15) (v := (-3)) dX9_meets_15 (by decide) ?_
  exact j_ireturn dX9_meets_17 hX rfl rfl
/-! X9_rule -/
noncomputable def f_X9_rule (z : Nat) (t : Option Nm) (a0 : Int32) (a1 : Int32) (g : Hp) : Option (Int32 × Hp) :=
  (f_X9_in z a0 1 400 g).bind fun q1 =>
  if q1.1 = 0 then (some ((-1), q1.2))
  else ((f_X9_in z a1 0 50 q1.2).bind fun q2 =>
    if q2.1 = 0 then (some ((-1), q2.2))
    else ((getI t 10 15 q2.2).bind fun x3 =>
      if x3 ≤ 0 then ((putI t 10 3 a0 q2.2).bind fun g4 =>
        (putI t 10 4 a1 g4).bind fun g5 =>
        some (1, g5))
      else (some ((-4), q2.2))))
set_option maxRecDepth 20000 in
theorem m_X9_rule (z : Nat) (t : Option Nm) (a0 : Int32) (a1 : Int32) (g : Hp) : FM yX9_rule cX9_rule 3 (some .int) 1 22 rtI [sR t, sI a0, sI a1] g (f_X9_rule z t a0 a1 g) := by
  refine FM.entry (by decide +kernel) (Nat.le_of_ble_eq_true rfl) (fun X hX => ?_)
  unfold f_X9_rule
  show J yX9_rule cX9_rule 3 (some .int) 1 22 X g 0 [(0, sR t), (1, sI a0), (2, sI a1)] [] _
  refine j_iload_n (pc := 0) 1 dX9_rule_0 rfl rfl ?_
  refine j_iconst (pc := 1) (v := 1) dX9_rule_1 (by decide) ?_
  refine j_sipush (pc := 2) (v := 400) dX9_rule_2 (by decide) ?_
  refine j_callS (pc := 5) (own := RX9) [sI a0, sI 1, sI 400] [] dX9_rule_5 lc_X9_72 ls_X9_in rfl (m_X9_in z a0 1 400 g) ⟨⟨Nat.le_of_ble_eq_true rfl, Nat.le_of_ble_eq_true rfl⟩, Nat.le_of_ble_eq_true rfl⟩ rfl rfl (fun q1r q1g => ?_)
  refine j_if_eq (pc := 8) (tgt := 21) dX9_rule_8 (by decide) rfl (fun hc => ?_) (fun hc => ?_)
  · refine j_iconst (pc := 21) (v := (-1)) dX9_rule_21 (by decide) ?_
    exact j_ireturn dX9_rule_22 hX rfl rfl
  · refine j_iload_n (pc := 11) 2 dX9_rule_11 rfl rfl ?_
    refine j_iconst (pc := 12) (v := 0) dX9_rule_12 (by decide) ?_
    refine j_bipush (pc := 13) (v := 50) dX9_rule_13 (by decide) ?_
    refine j_callS (pc := 15) (own := RX9) [sI a1, sI 0, sI 50] [] dX9_rule_15 lc_X9_72 ls_X9_in rfl (m_X9_in z a1 0 50 q1g) ⟨⟨Nat.le_of_ble_eq_true rfl, Nat.le_of_ble_eq_true rfl⟩, Nat.le_of_ble_eq_true rfl⟩ rfl rfl (fun q2r q2g => ?_)
    refine j_if_ne (pc := 18) (tgt := 23) dX9_rule_18 (by decide) rfl (fun hc => ?_) (fun hc => ?_)
    · refine j_aload_n (pc := 23) 0 dX9_rule_23 rfl rfl ?_
      refine j_getI (pc := 24) (own := RX9) dX9_rule_24 lf_X9_76 rfl rfl (fun x3 => ?_)
      refine j_if_le (pc := 27) (tgt := 33) dX9_rule_27 (by decide) rfl (fun hc => ?_) (fun hc => ?_)
      · refine j_aload_n (pc := 33) 0 dX9_rule_33 rfl rfl ?_
        refine j_iload_n (pc := 34) 1 dX9_rule_34 rfl rfl ?_
        refine j_putI (pc := 35) (own := RX9) dX9_rule_35 lf_X9_13 lt_10_3 lw_X9_13_X9_rule rfl rfl (fun g4 => ?_)
        refine j_aload_n (pc := 38) 0 dX9_rule_38 rfl rfl ?_
        refine j_iload_n (pc := 39) 2 dX9_rule_39 rfl rfl ?_
        refine j_putI (pc := 40) (own := RX9) dX9_rule_40 lf_X9_17 lt_10_4 lw_X9_17_X9_rule rfl rfl (fun g5 => ?_)
        refine j_iconst (pc := 43) (v := 1) dX9_rule_43 (by decide) ?_
        exact j_ireturn dX9_rule_44 hX rfl rfl
      · refine j_bipush (pc := 30) (v := (-4)) dX9_rule_30 (by decide) ?_
        exact j_ireturn dX9_rule_32 hX rfl rfl
    · refine j_iconst (pc := 21) (v := (-1)) dX9_rule_21 (by decide) ?_
      exact j_ireturn dX9_rule_22 hX rfl rfl
/-! X9_isCell -/
noncomputable def f_X9_isCell (z : Nat) (a0 : Int32) (g : Hp) : Option (Int32 × Hp) :=
  (f_X9_in z a0 0 143 g).bind fun q1 =>
  rtZ q1.1 q1.2
set_option maxRecDepth 20000 in
theorem m_X9_isCell (z : Nat) (a0 : Int32) (g : Hp) : FM yX9_isCell cX9_isCell 1 (some .boolean) 1 22 rtI [sI a0] g (f_X9_isCell z a0 g) := by
  refine FM.entry (by decide +kernel) (Nat.le_of_ble_eq_true rfl) (fun X hX => ?_)
  unfold f_X9_isCell
  show J yX9_isCell cX9_isCell 1 (some .boolean) 1 22 X g 0 [(0, sI a0)] [] _
  refine j_iload_n (pc := 0) 0 dX9_isCell_0 rfl rfl ?_
  refine j_iconst (pc := 1) (v := 0) dX9_isCell_1 (by decide) ?_
  refine j_sipush (pc := 2) (v := 143) dX9_isCell_2 (by decide) ?_
  refine j_callS (pc := 5) (own := RX9) [sI a0, sI 0, sI 143] [] dX9_isCell_5 lc_X9_72 ls_X9_in rfl (m_X9_in z a0 0 143 g) ⟨⟨Nat.le_of_ble_eq_true rfl, Nat.le_of_ble_eq_true rfl⟩, Nat.le_of_ble_eq_true rfl⟩ rfl rfl (fun q1r q1g => ?_)
  exact j_zreturn dX9_isCell_8 hX rfl rfl
/-! X9_station -/
noncomputable def f_X9_station (z : Nat) (t : Option Nm) (a0 : Int32) (g : Hp) : Option (Int32 × Hp) :=
  (f_X9_isCell z a0 g).bind fun q1 =>
  if q1.1 = 0 then (some ((-1), q1.2))
  else ((getI t 10 6 q1.2).bind fun x2 =>
    if x2 = 10 then (some ((-2), q1.2))
    else ((getI t 10 15 q1.2).bind fun x3 =>
      if x3 ≤ 0 then ((getR t 10 7 q1.2).bind fun x4 =>
        (getI t 10 6 q1.2).bind fun x5 =>
        (astI x4 x5 a0 q1.2).bind fun g6 =>
        (getI t 10 6 g6).bind fun x7 =>
        (putI t 10 6 (x7 + 1) g6).bind fun g8 =>
        (getI t 10 6 g8).bind fun x9 =>
        some ((x9 - 1), g8))
      else (some ((-4), q1.2))))
set_option maxRecDepth 20000 in
theorem m_X9_station (z : Nat) (t : Option Nm) (a0 : Int32) (g : Hp) : FM yX9_station cX9_station 2 (some .int) 2 42 rtI [sR t, sI a0] g (f_X9_station z t a0 g) := by
  refine FM.entry (by decide +kernel) (Nat.le_of_ble_eq_true rfl) (fun X hX => ?_)
  unfold f_X9_station
  show J yX9_station cX9_station 2 (some .int) 2 42 X g 0 [(0, sR t), (1, sI a0)] [] _
  refine j_iload_n (pc := 0) 1 dX9_station_0 rfl rfl ?_
  refine j_callS (pc := 1) (own := RX9) [sI a0] [] dX9_station_1 lc_X9_79 ls_X9_isCell rfl (m_X9_isCell z a0 g) ⟨⟨Nat.le_of_ble_eq_true rfl, Nat.le_of_ble_eq_true rfl⟩, Nat.le_of_ble_eq_true rfl⟩ rfl rfl (fun q1r q1g => ?_)
  refine j_if_ne (pc := 4) (tgt := 9) dX9_station_4 (by decide) rfl (fun hc => ?_) (fun hc => ?_)
  · refine j_aload_n (pc := 9) 0 dX9_station_9 rfl rfl ?_
    refine j_getI (pc := 10) (own := RX9) dX9_station_10 lf_X9_83 rfl rfl (fun x2 => ?_)
    refine j_bipush (pc := 13) (v := 10) dX9_station_13 (by decide) ?_
    refine j_icmp_ne (pc := 15) (tgt := 21) dX9_station_15 (by decide) rfl (fun hc => ?_) (fun hc => ?_)
    · refine j_aload_n (pc := 21) 0 dX9_station_21 rfl rfl ?_
      refine j_getI (pc := 22) (own := RX9) dX9_station_22 lf_X9_76 rfl rfl (fun x3 => ?_)
      refine j_if_le (pc := 25) (tgt := 31) dX9_station_25 (by decide) rfl (fun hc => ?_) (fun hc => ?_)
      · refine j_aload_n (pc := 31) 0 dX9_station_31 rfl rfl ?_
        refine j_getR (pc := 32) (own := RX9) dX9_station_32 lf_X9_20 rfl rfl (fun x4 => ?_)
        refine j_aload_n (pc := 35) 0 dX9_station_35 rfl rfl ?_
        refine j_getI (pc := 36) (own := RX9) dX9_station_36 lf_X9_83 rfl rfl (fun x5 => ?_)
        refine j_iload_n (pc := 39) 1 dX9_station_39 rfl rfl ?_
        refine j_astI (pc := 40) dX9_station_40 rfl (fun g6 => ?_)
        refine j_aload_n (pc := 41) 0 dX9_station_41 rfl rfl ?_
        refine j_dup (pc := 42) dX9_station_42 rfl ?_
        refine j_getI (pc := 43) (own := RX9) dX9_station_43 lf_X9_83 rfl rfl (fun x7 => ?_)
        refine j_iconst (pc := 46) (v := 1) dX9_station_46 (by decide) ?_
        refine j_iadd (pc := 47) dX9_station_47 ?_
        refine j_putI (pc := 48) (own := RX9) dX9_station_48 lf_X9_83 lt_10_6 lw_X9_83_X9_station rfl rfl (fun g8 => ?_)
        refine j_aload_n (pc := 51) 0 dX9_station_51 rfl rfl ?_
        refine j_getI (pc := 52) (own := RX9) dX9_station_52 lf_X9_83 rfl rfl (fun x9 => ?_)
        refine j_iconst (pc := 55) (v := 1) dX9_station_55 (by decide) ?_
        refine j_isub (pc := 56) dX9_station_56 ?_
        exact j_ireturn dX9_station_57 hX rfl rfl
      · refine j_bipush (pc := 28) (v := (-4)) dX9_station_28 (by decide) ?_
        exact j_ireturn dX9_station_30 hX rfl rfl
    · refine j_bipush (pc := 18) (v := (-2)) dX9_station_18 (by decide) ?_
      exact j_ireturn dX9_station_20 hX rfl rfl
  · refine j_iconst (pc := 7) (v := (-1)) dX9_station_7 (by decide) ?_
    exact j_ireturn dX9_station_8 hX rfl rfl
/-! X9_town -/
noncomputable def f_X9_town (z : Nat) (t : Option Nm) (a0 : Int32) (g : Hp) : Option (Int32 × Hp) :=
  (f_X9_isCell z a0 g).bind fun q1 =>
  if q1.1 = 0 then (some ((-1), q1.2))
  else ((getI t 10 9 q1.2).bind fun x2 =>
    if x2 = 6 then (some ((-2), q1.2))
    else ((getR t 10 10 q1.2).bind fun x3 =>
      (getI t 10 9 q1.2).bind fun x4 =>
      (astI x3 x4 a0 q1.2).bind fun g5 =>
      (getI t 10 9 g5).bind fun x6 =>
      (putI t 10 9 (x6 + 1) g5).bind fun g7 =>
      (getI t 10 9 g7).bind fun x8 =>
      some ((x8 - 1), g7)))
set_option maxRecDepth 20000 in
theorem m_X9_town (z : Nat) (t : Option Nm) (a0 : Int32) (g : Hp) : FM yX9_town cX9_town 2 (some .int) 2 42 rtI [sR t, sI a0] g (f_X9_town z t a0 g) := by
  refine FM.entry (by decide +kernel) (Nat.le_of_ble_eq_true rfl) (fun X hX => ?_)
  unfold f_X9_town
  show J yX9_town cX9_town 2 (some .int) 2 42 X g 0 [(0, sR t), (1, sI a0)] [] _
  refine j_iload_n (pc := 0) 1 dX9_town_0 rfl rfl ?_
  refine j_callS (pc := 1) (own := RX9) [sI a0] [] dX9_town_1 lc_X9_79 ls_X9_isCell rfl (m_X9_isCell z a0 g) ⟨⟨Nat.le_of_ble_eq_true rfl, Nat.le_of_ble_eq_true rfl⟩, Nat.le_of_ble_eq_true rfl⟩ rfl rfl (fun q1r q1g => ?_)
  refine j_if_ne (pc := 4) (tgt := 9) dX9_town_4 (by decide) rfl (fun hc => ?_) (fun hc => ?_)
  · refine j_aload_n (pc := 9) 0 dX9_town_9 rfl rfl ?_
    refine j_getI (pc := 10) (own := RX9) dX9_town_10 lf_X9_86 rfl rfl (fun x2 => ?_)
    refine j_bipush (pc := 13) (v := 6) dX9_town_13 (by decide) ?_
    refine j_icmp_ne (pc := 15) (tgt := 21) dX9_town_15 (by decide) rfl (fun hc => ?_) (fun hc => ?_)
    · refine j_aload_n (pc := 21) 0 dX9_town_21 rfl rfl ?_
      refine j_getR (pc := 22) (own := RX9) dX9_town_22 lf_X9_27 rfl rfl (fun x3 => ?_)
      refine j_aload_n (pc := 25) 0 dX9_town_25 rfl rfl ?_
      refine j_getI (pc := 26) (own := RX9) dX9_town_26 lf_X9_86 rfl rfl (fun x4 => ?_)
      refine j_iload_n (pc := 29) 1 dX9_town_29 rfl rfl ?_
      refine j_astI (pc := 30) dX9_town_30 rfl (fun g5 => ?_)
      refine j_aload_n (pc := 31) 0 dX9_town_31 rfl rfl ?_
      refine j_dup (pc := 32) dX9_town_32 rfl ?_
      refine j_getI (pc := 33) (own := RX9) dX9_town_33 lf_X9_86 rfl rfl (fun x6 => ?_)
      refine j_iconst (pc := 36) (v := 1) dX9_town_36 (by decide) ?_
      refine j_iadd (pc := 37) dX9_town_37 ?_
      refine j_putI (pc := 38) (own := RX9) dX9_town_38 lf_X9_86 lt_10_9 lw_X9_86_X9_town rfl rfl (fun g7 => ?_)
      refine j_aload_n (pc := 41) 0 dX9_town_41 rfl rfl ?_
      refine j_getI (pc := 42) (own := RX9) dX9_town_42 lf_X9_86 rfl rfl (fun x8 => ?_)
      refine j_iconst (pc := 45) (v := 1) dX9_town_45 (by decide) ?_
      refine j_isub (pc := 46) dX9_town_46 ?_
      exact j_ireturn dX9_town_47 hX rfl rfl
    · refine j_bipush (pc := 18) (v := (-2)) dX9_town_18 (by decide) ?_
      exact j_ireturn dX9_town_20 hX rfl rfl
  · refine j_iconst (pc := 7) (v := (-1)) dX9_town_7 (by decide) ?_
    exact j_ireturn dX9_town_8 hX rfl rfl
/-! X9_isStation -/
noncomputable def f_X9_isStation (z : Nat) (t : Option Nm) (a0 : Int32) (g : Hp) : Option (Int32 × Hp) :=
  (getI t 10 6 g).bind fun x1 =>
  (f_X9_in z a0 0 (x1 - 1) g).bind fun q2 =>
  rtZ q2.1 q2.2
set_option maxRecDepth 20000 in
theorem m_X9_isStation (z : Nat) (t : Option Nm) (a0 : Int32) (g : Hp) : FM yX9_isStation cX9_isStation 2 (some .boolean) 1 22 rtI [sR t, sI a0] g (f_X9_isStation z t a0 g) := by
  refine FM.entry (by decide +kernel) (Nat.le_of_ble_eq_true rfl) (fun X hX => ?_)
  unfold f_X9_isStation
  show J yX9_isStation cX9_isStation 2 (some .boolean) 1 22 X g 0 [(0, sR t), (1, sI a0)] [] _
  refine j_iload_n (pc := 0) 1 dX9_isStation_0 rfl rfl ?_
  refine j_iconst (pc := 1) (v := 0) dX9_isStation_1 (by decide) ?_
  refine j_aload_n (pc := 2) 0 dX9_isStation_2 rfl rfl ?_
  refine j_getI (pc := 3) (own := RX9) dX9_isStation_3 lf_X9_83 rfl rfl (fun x1 => ?_)
  refine j_iconst (pc := 6) (v := 1) dX9_isStation_6 (by decide) ?_
  refine j_isub (pc := 7) dX9_isStation_7 ?_
  refine j_callS (pc := 8) (own := RX9) [sI a0, sI 0, sI (x1 - 1)] [] dX9_isStation_8 lc_X9_72 ls_X9_in rfl (m_X9_in z a0 0 (x1 - 1) g) ⟨⟨Nat.le_of_ble_eq_true rfl, Nat.le_of_ble_eq_true rfl⟩, Nat.le_of_ble_eq_true rfl⟩ rfl rfl (fun q2r q2g => ?_)
  exact j_zreturn dX9_isStation_11 hX rfl rfl
/-! X9_isTown -/
noncomputable def f_X9_isTown (z : Nat) (t : Option Nm) (a0 : Int32) (g : Hp) : Option (Int32 × Hp) :=
  (getI t 10 9 g).bind fun x1 =>
  (f_X9_in z a0 0 (x1 - 1) g).bind fun q2 =>
  rtZ q2.1 q2.2
set_option maxRecDepth 20000 in
theorem m_X9_isTown (z : Nat) (t : Option Nm) (a0 : Int32) (g : Hp) : FM yX9_isTown cX9_isTown 2 (some .boolean) 1 22 rtI [sR t, sI a0] g (f_X9_isTown z t a0 g) := by
  refine FM.entry (by decide +kernel) (Nat.le_of_ble_eq_true rfl) (fun X hX => ?_)
  unfold f_X9_isTown
  show J yX9_isTown cX9_isTown 2 (some .boolean) 1 22 X g 0 [(0, sR t), (1, sI a0)] [] _
  refine j_iload_n (pc := 0) 1 dX9_isTown_0 rfl rfl ?_
  refine j_iconst (pc := 1) (v := 0) dX9_isTown_1 (by decide) ?_
  refine j_aload_n (pc := 2) 0 dX9_isTown_2 rfl rfl ?_
  refine j_getI (pc := 3) (own := RX9) dX9_isTown_3 lf_X9_86 rfl rfl (fun x1 => ?_)
  refine j_iconst (pc := 6) (v := 1) dX9_isTown_6 (by decide) ?_
  refine j_isub (pc := 7) dX9_isTown_7 ?_
  refine j_callS (pc := 8) (own := RX9) [sI a0, sI 0, sI (x1 - 1)] [] dX9_isTown_8 lc_X9_72 ls_X9_in rfl (m_X9_in z a0 0 (x1 - 1) g) ⟨⟨Nat.le_of_ble_eq_true rfl, Nat.le_of_ble_eq_true rfl⟩, Nat.le_of_ble_eq_true rfl⟩ rfl rfl (fun q2r q2g => ?_)
  exact j_zreturn dX9_isTown_11 hX rfl rfl
/-! X9_deaf -/
noncomputable def f_X9_deaf (z : Nat) (t : Option Nm) (a0 : Int32) (a1 : Int32) (g : Hp) : Option (Int32 × Hp) :=
  (ick t 10 (f_X9_isStation z t a0 g)).bind fun q1 =>
  if q1.1 = 0 then (some ((-1), q1.2))
  else ((getR t 10 8 q1.2).bind fun x2 =>
    (aldZ x2 a0 q1.2).bind fun x3 =>
    ((if x3 = 0 then (some (0))
      else (some (1))) : Option (Int32)).bind fun q4 =>
    (getR t 10 8 q1.2).bind fun x5 =>
    (astZ x5 a0 a1 q1.2).bind fun g6 =>
    some (q4, g6))
set_option maxRecDepth 20000 in
theorem m_X9_deaf (z : Nat) (t : Option Nm) (a0 : Int32) (a1 : Int32) (g : Hp) : FM yX9_deaf cX9_deaf 4 (some .int) 2 43 rtI [sR t, sI a0, sI a1] g (f_X9_deaf z t a0 a1 g) := by
  refine FM.entry (by decide +kernel) (Nat.le_of_ble_eq_true rfl) (fun X hX => ?_)
  unfold f_X9_deaf
  show J yX9_deaf cX9_deaf 4 (some .int) 2 43 X g 0 [(0, sR t), (1, sI a0), (2, sI a1)] [] _
  refine j_aload_n (pc := 0) 0 dX9_deaf_0 rfl rfl ?_
  refine j_iload_n (pc := 1) 1 dX9_deaf_1 rfl rfl ?_
  refine j_callV (pc := 2) (own := RX9) [sI a0] [] dX9_deaf_2 lc_X9_89 lv_X9_isStation rfl (m_X9_isStation z t a0 g) ⟨⟨Nat.le_of_ble_eq_true rfl, Nat.le_of_ble_eq_true rfl⟩, Nat.le_of_ble_eq_true rfl⟩ rfl rfl (fun q1r q1g => ?_)
  refine j_if_ne (pc := 5) (tgt := 10) dX9_deaf_5 (by decide) rfl (fun hc => ?_) (fun hc => ?_)
  · refine j_aload_n (pc := 10) 0 dX9_deaf_10 rfl rfl ?_
    refine j_getR (pc := 11) (own := RX9) dX9_deaf_11 lf_X9_23 rfl rfl (fun x2 => ?_)
    refine j_iload_n (pc := 14) 1 dX9_deaf_14 rfl rfl ?_
    refine j_aldZ (pc := 15) dX9_deaf_15 rfl (fun x3 => ?_)
    refine J.jn (σ := Int32) (fun q4 pr => J yX9_deaf cX9_deaf 4 (some .int) 2 43 X q1g 24 [(0, sR t), (1, sI a0), (2, sI a1)] [sI q4] pr) (fun K24 hK24 => ?_) (fun q4 => ?_)
    · refine j_if_eq (pc := 16) (tgt := 23) dX9_deaf_16 (by decide) bi (fun hc => ?_) (fun hc => ?_)
      · refine j_iconst (pc := 23) (v := 0) dX9_deaf_23 (by decide) ?_
        exact hK24 (0)
      · refine j_iconst (pc := 19) (v := 1) dX9_deaf_19 (by decide) ?_
        refine j_goto (pc := 20) (tgt := 24) dX9_deaf_20 (by decide) ?_
        exact hK24 (1)
    · refine j_istore_n (pc := 24) (lv' := [(3, sI q4), (0, sR t), (1, sI a0), (2, sI a1)]) dX9_deaf_24 rfl (by decide) rfl ?_
      refine j_aload_n (pc := 25) 1 dX9_deaf_25 rfl rfl ?_
      refine j_getR (pc := 26) (own := RX9) dX9_deaf_26 lf_X9_23 rfl rfl (fun x5 => ?_)
      refine j_iload_n (pc := 29) 2 dX9_deaf_29 rfl rfl ?_
      refine j_iload_n (pc := 30) 3 dX9_deaf_30 rfl rfl ?_
      refine j_astZ (pc := 31) dX9_deaf_31 rfl (fun g6 => ?_)
      refine j_iload_n (pc := 32) 0 dX9_deaf_32 rfl rfl ?_
      exact j_ireturn dX9_deaf_33 hX rfl rfl
  · refine j_iconst (pc := 8) (v := (-1)) dX9_deaf_8 (by decide) ?_
    exact j_ireturn dX9_deaf_9 hX rfl rfl
/-! X9_travels -/
noncomputable def f_X9_travels_40_b (z : Nat) (p5 : Int32) (p4 : Int32) (p3 : Int32) (p0 : Option Nm) (p1 : Int32) (p2 : Int32) (rec : Int32 → Hp → Option (Int32 × Hp)) (v6 : Int32) (g : Hp) : Option (Int32 × Hp) :=
  if p5 < ((v6 + 1) * (v6 + 1)) then (some (v6, g))
  else (rec (v6 + 1) g)
noncomputable def f_X9_travels_40_L (z : Nat) (p5 : Int32) (p4 : Int32) (p3 : Int32) (p0 : Option Nm) (p1 : Int32) (p2 : Int32) : Nat → Int32 → Hp → Option (Int32 × Hp)
  | 0, _, _ => none
  | n + 1, v6, g => f_X9_travels_40_b z p5 p4 p3 p0 p1 p2 (f_X9_travels_40_L z p5 p4 p3 p0 p1 p2 n) v6 g
noncomputable def f_X9_travels (z : Nat) (t : Option Nm) (a0 : Int32) (a1 : Int32) (g : Hp) : Option (Int32 × Hp) :=
  (rmI a0 12).bind fun x1 =>
  (rmI a1 12).bind fun x2 =>
  (dvI a0 12).bind fun x3 =>
  (dvI a1 12).bind fun x4 =>
  (getI t 10 3 g).bind fun x5 =>
  (f_X9_travels_40_L z (x5 * (((x1 - x2) * (x1 - x2)) + ((x3 - x4) * (x3 - x4)))) (x3 - x4) (x1 - x2) t a0 a1 z 0 g).bind fun q6 =>
  some (q6.1, q6.2)
set_option maxRecDepth 20000 in
theorem b_X9_travels_40 {X : Xt Int32} (hX : IsM rtI X) (z : Nat) (p5 : Int32) (p4 : Int32) (p3 : Int32) (p0 : Option Nm) (p1 : Int32) (p2 : Int32) (rec : Int32 → Hp → Option (Int32 × Hp)) (K : Int32 × Hp → Option (Int32 × Hp)) (he : ∀ (v6 : Int32) (g : Hp), J yX9_travels cX9_travels 7 (some .int) 0 0 X g 60 [(6, sI v6), (5, sI p5), (4, sI p4), (3, sI p3), (0, sR p0), (1, sI p1), (2, sI p2)] [] (K (v6, g))) (hr : ∀ (v6 : Int32) (g : Hp), J yX9_travels cX9_travels 7 (some .int) 0 0 X g 40 [(6, sI v6), (5, sI p5), (4, sI p4), (3, sI p3), (0, sR p0), (1, sI p1), (2, sI p2)] [] ((rec v6 g).bind K)) (v6 : Int32) (g : Hp) : J yX9_travels cX9_travels 7 (some .int) 0 0 X g 40 [(6, sI v6), (5, sI p5), (4, sI p4), (3, sI p3), (0, sR p0), (1, sI p1), (2, sI p2)] [] ((f_X9_travels_40_b z p5 p4 p3 p0 p1 p2 rec v6 g).bind K) := by
  unfold f_X9_travels_40_b
  refine j_iload (pc := 40) 0 dX9_travels_40 rfl ?_
  refine j_iconst (pc := 42) (v := 1) dX9_travels_42 (by decide) ?_
  refine j_iadd (pc := 43) dX9_travels_43 ?_
  refine j_iload (pc := 44) 0 dX9_travels_44 rfl ?_
  refine j_iconst (pc := 46) (v := 1) dX9_travels_46 (by decide) ?_
  refine j_iadd (pc := 47) dX9_travels_47 ?_
  refine j_imul (pc := 48) dX9_travels_48 ?_
  refine j_iload (pc := 49) 1 dX9_travels_49 rfl ?_
  refine j_icmp_gt (pc := 51) (tgt := 60) dX9_travels_51 (by decide) bi (fun hc => ?_) (fun hc => ?_)
  · exact he v6 g
  · refine j_iinc (pc := 54) (v := (v6 + 1)) (lv' := [(6, sI (v6 + 1)), (5, sI p5), (4, sI p4), (3, sI p3), (0, sR p0), (1, sI p1), (2, sI p2)]) 0 dX9_travels_54 rfl rfl (by decide) rfl ?_
    refine j_goto (pc := 57) (tgt := 40) dX9_travels_57 (by decide) ?_
    exact hr (v6 + 1) g
set_option maxRecDepth 20000 in
theorem l_X9_travels_40 {X : Xt Int32} (hX : IsM rtI X) (z : Nat) (p5 : Int32) (p4 : Int32) (p3 : Int32) (p0 : Option Nm) (p1 : Int32) (p2 : Int32) (K : Int32 × Hp → Option (Int32 × Hp)) (he : ∀ (v6 : Int32) (g : Hp), J yX9_travels cX9_travels 7 (some .int) 0 0 X g 60 [(6, sI v6), (5, sI p5), (4, sI p4), (3, sI p3), (0, sR p0), (1, sI p1), (2, sI p2)] [] (K (v6, g))) : ∀ (n : Nat) (v6 : Int32) (g : Hp), J yX9_travels cX9_travels 7 (some .int) 0 0 X g 40 [(6, sI v6), (5, sI p5), (4, sI p4), (3, sI p3), (0, sR p0), (1, sI p1), (2, sI p2)] [] ((f_X9_travels_40_L z p5 p4 p3 p0 p1 p2 n v6 g).bind K)
  | 0, _, _ => J.eq rfl J.none
  | n + 1, v6, g => b_X9_travels_40 hX z p5 p4 p3 p0 p1 p2 _ K he (fun v6 g => l_X9_travels_40 hX z p5 p4 p3 p0 p1 p2 K he n v6 g) v6 g
set_option maxRecDepth 20000 in
theorem m_X9_travels (z : Nat) (t : Option Nm) (a0 : Int32) (a1 : Int32) (g : Hp) : FM yX9_travels cX9_travels 7 (some .int) 0 0 rtI [sR t, sI a0, sI a1] g (f_X9_travels z t a0 a1 g) := by
  refine FM.entry (by decide +kernel) (Nat.le_of_ble_eq_true rfl) (fun X hX => ?_)
  unfold f_X9_travels
  show J yX9_travels cX9_travels 7 (some .int) 0 0 X g 0 [(0, sR t), (1, sI a0), (2, sI a1)] [] _
  refine j_iload_n (pc := 0) 1 dX9_travels_0 rfl rfl ?_
  refine j_bipush (pc := 1) (v := 12) dX9_travels_1 (by decide) ?_
  refine b_irem (pc := 3) dX9_travels_3 rfl (fun x1 => ?_)
  refine j_iload_n (pc := 4) 2 dX9_travels_4 rfl rfl ?_
  refine j_bipush (pc := 5) (v := 12) dX9_travels_5 (by decide) ?_
  refine b_irem (pc := 7) dX9_travels_7 rfl (fun x2 => ?_)
  refine j_isub (pc := 8) dX9_travels_8 ?_
  refine j_istore_n (pc := 9) (lv' := [(3, sI (x1 - x2)), (0, sR t), (1, sI a0), (2, sI a1)]) dX9_travels_9 rfl (by decide) rfl ?_
  refine j_iload_n (pc := 10) 2 dX9_travels_10 rfl rfl ?_
  refine j_bipush (pc := 11) (v := 12) dX9_travels_11 (by decide) ?_
  refine b_idiv (pc := 13) dX9_travels_13 rfl (fun x3 => ?_)
  refine j_iload_n (pc := 14) 3 dX9_travels_14 rfl rfl ?_
  refine j_bipush (pc := 15) (v := 12) dX9_travels_15 (by decide) ?_
  refine b_idiv (pc := 17) dX9_travels_17 rfl (fun x4 => ?_)
  refine j_isub (pc := 18) dX9_travels_18 ?_
  refine j_istore (pc := 19) (lv' := [(4, sI (x3 - x4)), (3, sI (x1 - x2)), (0, sR t), (1, sI a0), (2, sI a1)]) dX9_travels_19 (by decide) rfl ?_
  refine j_aload_n (pc := 21) 2 dX9_travels_21 rfl rfl ?_
  refine j_getI (pc := 22) (own := RX9) dX9_travels_22 lf_X9_13 rfl rfl (fun x5 => ?_)
  refine j_iload_n (pc := 25) 1 dX9_travels_25 rfl rfl ?_
  refine j_iload_n (pc := 26) 1 dX9_travels_26 rfl rfl ?_
  refine j_imul (pc := 27) dX9_travels_27 ?_
  refine j_iload (pc := 28) 0 dX9_travels_28 rfl ?_
  refine j_iload (pc := 30) 0 dX9_travels_30 rfl ?_
  refine j_imul (pc := 32) dX9_travels_32 ?_
  refine j_iadd (pc := 33) dX9_travels_33 ?_
  refine j_imul (pc := 34) dX9_travels_34 ?_
  refine j_istore (pc := 35) (lv' := [(5, sI (x5 * (((x1 - x2) * (x1 - x2)) + ((x3 - x4) * (x3 - x4))))), (4, sI (x3 - x4)), (3, sI (x1 - x2)), (0, sR t), (1, sI a0), (2, sI a1)]) dX9_travels_35 (by decide) rfl ?_
  refine j_iconst (pc := 37) (v := 0) dX9_travels_37 (by decide) ?_
  refine j_istore (pc := 38) (lv' := [(6, sI 0), (5, sI (x5 * (((x1 - x2) * (x1 - x2)) + ((x3 - x4) * (x3 - x4))))), (4, sI (x3 - x4)), (3, sI (x1 - x2)), (0, sR t), (1, sI a0), (2, sI a1)]) dX9_travels_38 (by decide) rfl ?_
  refine l_X9_travels_40 hX z (x5 * (((x1 - x2) * (x1 - x2)) + ((x3 - x4) * (x3 - x4)))) (x3 - x4) (x1 - x2) t a0 a1 _ (fun q6_0 q6_g => ?_) z 0 g
  refine j_iload (pc := 60) 0 dX9_travels_60 rfl ?_
  exact j_ireturn dX9_travels_62 hX rfl rfl
/-! X9_travel -/
noncomputable def f_X9_travel (z : Nat) (t : Option Nm) (a0 : Int32) (a1 : Int32) (g : Hp) : Option (Int32 × Hp) :=
  (f_X9_isCell z a0 g).bind fun q1 =>
  if q1.1 = 0 then (some ((-1), q1.2))
  else ((f_X9_isCell z a1 q1.2).bind fun q2 =>
    if q2.1 = 0 then (some ((-1), q2.2))
    else ((ick t 10 (f_X9_travels z t a0 a1 q2.2)).bind fun q3 =>
      some (q3.1, q3.2)))
set_option maxRecDepth 20000 in
theorem m_X9_travel (z : Nat) (t : Option Nm) (a0 : Int32) (a1 : Int32) (g : Hp) : FM yX9_travel cX9_travel 3 (some .int) 2 42 rtI [sR t, sI a0, sI a1] g (f_X9_travel z t a0 a1 g) := by
  refine FM.entry (by decide +kernel) (Nat.le_of_ble_eq_true rfl) (fun X hX => ?_)
  unfold f_X9_travel
  show J yX9_travel cX9_travel 3 (some .int) 2 42 X g 0 [(0, sR t), (1, sI a0), (2, sI a1)] [] _
  refine j_iload_n (pc := 0) 1 dX9_travel_0 rfl rfl ?_
  refine j_callS (pc := 1) (own := RX9) [sI a0] [] dX9_travel_1 lc_X9_79 ls_X9_isCell rfl (m_X9_isCell z a0 g) ⟨⟨Nat.le_of_ble_eq_true rfl, Nat.le_of_ble_eq_true rfl⟩, Nat.le_of_ble_eq_true rfl⟩ rfl rfl (fun q1r q1g => ?_)
  refine j_if_eq (pc := 4) (tgt := 23) dX9_travel_4 (by decide) rfl (fun hc => ?_) (fun hc => ?_)
  · refine j_iconst (pc := 23) (v := (-1)) dX9_travel_23 (by decide) ?_
    exact j_ireturn dX9_travel_24 hX rfl rfl
  · refine j_iload_n (pc := 7) 2 dX9_travel_7 rfl rfl ?_
    refine j_callS (pc := 8) (own := RX9) [sI a1] [] dX9_travel_8 lc_X9_79 ls_X9_isCell rfl (m_X9_isCell z a1 q1g) ⟨⟨Nat.le_of_ble_eq_true rfl, Nat.le_of_ble_eq_true rfl⟩, Nat.le_of_ble_eq_true rfl⟩ rfl rfl (fun q2r q2g => ?_)
    refine j_if_eq (pc := 11) (tgt := 23) dX9_travel_11 (by decide) rfl (fun hc => ?_) (fun hc => ?_)
    · refine j_iconst (pc := 23) (v := (-1)) dX9_travel_23 (by decide) ?_
      exact j_ireturn dX9_travel_24 hX rfl rfl
    · refine j_aload_n (pc := 14) 0 dX9_travel_14 rfl rfl ?_
      refine j_iload_n (pc := 15) 1 dX9_travel_15 rfl rfl ?_
      refine j_iload_n (pc := 16) 2 dX9_travel_16 rfl rfl ?_
      refine j_callV (pc := 17) (own := RX9) [sI a0, sI a1] [] dX9_travel_17 lc_X9_92 lv_X9_travels rfl (m_X9_travels z t a0 a1 q2g) ⟨⟨Nat.le_of_ble_eq_true rfl, Nat.le_of_ble_eq_true rfl⟩, Nat.le_of_ble_eq_true rfl⟩ rfl rfl (fun q3r q3g => ?_)
      refine j_goto (pc := 20) (tgt := 24) dX9_travel_20 (by decide) ?_
      exact j_ireturn dX9_travel_24 hX rfl rfl
/-! X9_later -/
noncomputable def f_X9_later (z : Nat) (t : Option Nm) (a0 : Int32) (g : Hp) : Option (Int32 × Hp) :=
  if a0 < 0 then (some ((-1), g))
  else ((getI t 10 5 g).bind fun x1 =>
    if a0 ≤ (100000 - x1) then ((getI t 10 5 g).bind fun x2 =>
      (putI t 10 5 (x2 + a0) g).bind fun g3 =>
      (getI t 10 5 g3).bind fun x4 =>
      some (x4, g3))
    else (some ((-1), g)))
set_option maxRecDepth 20000 in
theorem m_X9_later (z : Nat) (t : Option Nm) (a0 : Int32) (g : Hp) : FM yX9_later cX9_later 2 (some .int) 0 0 rtI [sR t, sI a0] g (f_X9_later z t a0 g) := by
  refine FM.entry (by decide +kernel) (Nat.le_of_ble_eq_true rfl) (fun X hX => ?_)
  unfold f_X9_later
  show J yX9_later cX9_later 2 (some .int) 0 0 X g 0 [(0, sR t), (1, sI a0)] [] _
  refine j_iload_n (pc := 0) 1 dX9_later_0 rfl rfl ?_
  refine j_if_lt (pc := 1) (tgt := 15) dX9_later_1 (by decide) rfl (fun hc => ?_) (fun hc => ?_)
  · refine j_iconst (pc := 15) (v := (-1)) dX9_later_15 (by decide) ?_
    exact j_ireturn dX9_later_16 hX rfl rfl
  · refine j_iload_n (pc := 4) 1 dX9_later_4 rfl rfl ?_
    refine j_ldc (pc := 5) (own := RX9) (v := 100000) dX9_later_5 rfl lk_X9_96 ?_
    refine j_aload_n (pc := 7) 0 dX9_later_7 rfl rfl ?_
    refine j_getI (pc := 8) (own := RX9) dX9_later_8 lf_X9_97 rfl rfl (fun x1 => ?_)
    refine j_isub (pc := 11) dX9_later_11 ?_
    refine j_icmp_le (pc := 12) (tgt := 17) dX9_later_12 (by decide) rfl (fun hc => ?_) (fun hc => ?_)
    · refine j_aload_n (pc := 17) 0 dX9_later_17 rfl rfl ?_
      refine j_dup (pc := 18) dX9_later_18 rfl ?_
      refine j_getI (pc := 19) (own := RX9) dX9_later_19 lf_X9_97 rfl rfl (fun x2 => ?_)
      refine j_iload_n (pc := 22) 1 dX9_later_22 rfl rfl ?_
      refine j_iadd (pc := 23) dX9_later_23 ?_
      refine j_putI (pc := 24) (own := RX9) dX9_later_24 lf_X9_97 lt_10_5 lw_X9_97_X9_later rfl rfl (fun g3 => ?_)
      refine j_aload_n (pc := 27) 0 dX9_later_27 rfl rfl ?_
      refine j_getI (pc := 28) (own := RX9) dX9_later_28 lf_X9_97 rfl rfl (fun x4 => ?_)
      exact j_ireturn dX9_later_31 hX rfl rfl
    · refine j_iconst (pc := 15) (v := (-1)) dX9_later_15 (by decide) ?_
      exact j_ireturn dX9_later_16 hX rfl rfl
/-! X9_row -/
noncomputable def f_X9_row_35_b (z : Nat) (p0 : Option Nm) (p1 : Int32) (p2 : Int32) (rec : Int32 → Hp → Option (Int32 × Hp)) (v3 : Int32) (g : Hp) : Option (Int32 × Hp) :=
  if 30 ≤ v3 then (some (v3, g))
  else ((getR p0 10 12 g).bind fun x4 =>
    (astI x4 ((30 * p1) + v3) 0 g).bind fun g5 =>
    rec (v3 + 1) g5)
noncomputable def f_X9_row_35_L (z : Nat) (p0 : Option Nm) (p1 : Int32) (p2 : Int32) : Nat → Int32 → Hp → Option (Int32 × Hp)
  | 0, _, _ => none
  | n + 1, v3, g => f_X9_row_35_b z p0 p1 p2 (f_X9_row_35_L z p0 p1 p2 n) v3 g
noncomputable def f_X9_row (z : Nat) (t : Option Nm) (a0 : Int32) (a1 : Int32) (g : Hp) : Option (Int32 × Hp) :=
  (ick t 10 (f_X9_isStation z t a0 g)).bind fun q1 =>
  if q1.1 = 0 then (some ((-1), q1.2))
  else (if a1 ≤ 30 then (if 0 ≤ a1 then ((getR t 10 11 q1.2).bind fun x2 =>
        (astI x2 a0 a1 q1.2).bind fun g3 =>
        (f_X9_row_35_L z t a0 a1 z 0 g3).bind fun q6 =>
        some (a1, q6.2))
      else ((ick t 10 (f_X9_meets z t 5 q1.2)).bind fun q7 =>
        some (q7.1, q7.2)))
    else (some ((-1), q1.2)))
set_option maxRecDepth 20000 in
theorem b_X9_row_35 {X : Xt Int32} (hX : IsM rtI X) (z : Nat) (p0 : Option Nm) (p1 : Int32) (p2 : Int32) (rec : Int32 → Hp → Option (Int32 × Hp)) (K : Int32 × Hp → Option (Int32 × Hp)) (he : ∀ (v3 : Int32) (g : Hp), J yX9_row cX9_row 4 (some .int) 2 43 X g 59 [(3, sI v3), (0, sR p0), (1, sI p1), (2, sI p2)] [] (K (v3, g))) (hr : ∀ (v3 : Int32) (g : Hp), J yX9_row cX9_row 4 (some .int) 2 43 X g 35 [(3, sI v3), (0, sR p0), (1, sI p1), (2, sI p2)] [] ((rec v3 g).bind K)) (v3 : Int32) (g : Hp) : J yX9_row cX9_row 4 (some .int) 2 43 X g 35 [(3, sI v3), (0, sR p0), (1, sI p1), (2, sI p2)] [] ((f_X9_row_35_b z p0 p1 p2 rec v3 g).bind K) := by
  unfold f_X9_row_35_b
  refine j_iload_n (pc := 35) 0 dX9_row_35 rfl rfl ?_
  refine j_bipush (pc := 36) (v := 30) dX9_row_36 (by decide) ?_
  refine j_icmp_ge (pc := 38) (tgt := 59) dX9_row_38 (by decide) bi (fun hc => ?_) (fun hc => ?_)
  · exact he v3 g
  · refine j_aload_n (pc := 41) 1 dX9_row_41 rfl rfl ?_
    refine j_getR (pc := 42) (own := RX9) dX9_row_42 lf_X9_33 rfl bb (fun x4 => ?_)
    refine j_bipush (pc := 45) (v := 30) dX9_row_45 (by decide) ?_
    refine j_iload_n (pc := 47) 2 dX9_row_47 rfl rfl ?_
    refine j_imul (pc := 48) dX9_row_48 ?_
    refine j_iload_n (pc := 49) 0 dX9_row_49 rfl rfl ?_
    refine j_iadd (pc := 50) dX9_row_50 ?_
    refine j_iconst (pc := 51) (v := 0) dX9_row_51 (by decide) ?_
    refine j_astI (pc := 52) dX9_row_52 bb (fun g5 => ?_)
    refine j_iinc (pc := 53) (v := (v3 + 1)) (lv' := [(3, sI (v3 + 1)), (0, sR p0), (1, sI p1), (2, sI p2)]) 0 dX9_row_53 rfl rfl (by decide) rfl ?_
    refine j_goto (pc := 56) (tgt := 35) dX9_row_56 (by decide) ?_
    exact hr (v3 + 1) g5
set_option maxRecDepth 20000 in
theorem l_X9_row_35 {X : Xt Int32} (hX : IsM rtI X) (z : Nat) (p0 : Option Nm) (p1 : Int32) (p2 : Int32) (K : Int32 × Hp → Option (Int32 × Hp)) (he : ∀ (v3 : Int32) (g : Hp), J yX9_row cX9_row 4 (some .int) 2 43 X g 59 [(3, sI v3), (0, sR p0), (1, sI p1), (2, sI p2)] [] (K (v3, g))) : ∀ (n : Nat) (v3 : Int32) (g : Hp), J yX9_row cX9_row 4 (some .int) 2 43 X g 35 [(3, sI v3), (0, sR p0), (1, sI p1), (2, sI p2)] [] ((f_X9_row_35_L z p0 p1 p2 n v3 g).bind K)
  | 0, _, _ => J.eq rfl J.none
  | n + 1, v3, g => b_X9_row_35 hX z p0 p1 p2 _ K he (fun v3 g => l_X9_row_35 hX z p0 p1 p2 K he n v3 g) v3 g
set_option maxRecDepth 20000 in
theorem m_X9_row (z : Nat) (t : Option Nm) (a0 : Int32) (a1 : Int32) (g : Hp) : FM yX9_row cX9_row 4 (some .int) 2 43 rtI [sR t, sI a0, sI a1] g (f_X9_row z t a0 a1 g) := by
  refine FM.entry (by decide +kernel) (Nat.le_of_ble_eq_true rfl) (fun X hX => ?_)
  unfold f_X9_row
  show J yX9_row cX9_row 4 (some .int) 2 43 X g 0 [(0, sR t), (1, sI a0), (2, sI a1)] [] _
  refine j_aload_n (pc := 0) 0 dX9_row_0 rfl rfl ?_
  refine j_iload_n (pc := 1) 1 dX9_row_1 rfl rfl ?_
  refine j_callV (pc := 2) (own := RX9) [sI a0] [] dX9_row_2 lc_X9_89 lv_X9_isStation rfl (m_X9_isStation z t a0 g) ⟨⟨Nat.le_of_ble_eq_true rfl, Nat.le_of_ble_eq_true rfl⟩, Nat.le_of_ble_eq_true rfl⟩ rfl rfl (fun q1r q1g => ?_)
  refine j_if_eq (pc := 5) (tgt := 14) dX9_row_5 (by decide) rfl (fun hc => ?_) (fun hc => ?_)
  · refine j_iconst (pc := 14) (v := (-1)) dX9_row_14 (by decide) ?_
    exact j_ireturn dX9_row_15 hX rfl rfl
  · refine j_iload_n (pc := 8) 2 dX9_row_8 rfl rfl ?_
    refine j_bipush (pc := 9) (v := 30) dX9_row_9 (by decide) ?_
    refine j_icmp_le (pc := 11) (tgt := 16) dX9_row_11 (by decide) rfl (fun hc => ?_) (fun hc => ?_)
    · refine j_iload_n (pc := 16) 2 dX9_row_16 rfl rfl ?_
      refine j_if_ge (pc := 17) (tgt := 26) dX9_row_17 (by decide) rfl (fun hc => ?_) (fun hc => ?_)
      · refine j_aload_n (pc := 26) 0 dX9_row_26 rfl rfl ?_
        refine j_getR (pc := 27) (own := RX9) dX9_row_27 lf_X9_30 rfl rfl (fun x2 => ?_)
        refine j_iload_n (pc := 30) 1 dX9_row_30 rfl rfl ?_
        refine j_iload_n (pc := 31) 2 dX9_row_31 rfl rfl ?_
        refine j_astI (pc := 32) dX9_row_32 rfl (fun g3 => ?_)
        refine j_iconst (pc := 33) (v := 0) dX9_row_33 (by decide) ?_
        refine j_istore_n (pc := 34) (lv' := [(3, sI 0), (0, sR t), (1, sI a0), (2, sI a1)]) dX9_row_34 rfl (by decide) rfl ?_
        refine l_X9_row_35 hX z t a0 a1 _ (fun q6_0 q6_g => ?_) z 0 g3
        refine j_iload_n (pc := 59) 3 dX9_row_59 rfl rfl ?_
        exact j_ireturn dX9_row_60 hX rfl rfl
      · refine j_aload_n (pc := 20) 0 dX9_row_20 rfl rfl ?_
        refine j_iconst (pc := 21) (v := 5) dX9_row_21 (by decide) ?_
        refine j_callV (pc := 22) (own := RX9) [sI 5] [] dX9_row_22 lc_X9_100 lv_X9_meets rfl (m_X9_meets z t 5 q1g) ⟨⟨Nat.le_of_ble_eq_true rfl, Nat.le_of_ble_eq_true rfl⟩, Nat.le_of_ble_eq_true rfl⟩ rfl rfl (fun q7r q7g => ?_)
        exact j_ireturn dX9_row_25 hX rfl rfl
    · refine j_iconst (pc := 14) (v := (-1)) dX9_row_14 (by decide) ?_
      exact j_ireturn dX9_row_15 hX rfl rfl
/-! X9_lay -/
noncomputable def f_X9_lay (z : Nat) (t : Option Nm) (a0 : Int32) (a1 : Int32) (a2 : Int32) (g : Hp) : Option (Int32 × Hp) :=
  (ick t 10 (f_X9_isStation z t a0 g)).bind fun q1 =>
  if q1.1 = 0 then (some ((-1), q1.2))
  else ((f_X9_in z a2 (-100000) 100000 q1.2).bind fun q2 =>
    if q2.1 = 0 then (some ((-1), q2.2))
    else ((getR t 10 11 q2.2).bind fun x3 =>
      (aldI x3 a0 q2.2).bind fun x4 =>
      if 0 ≤ x4 then ((getR t 10 11 q2.2).bind fun x5 =>
        (aldI x5 a0 q2.2).bind fun x6 =>
        (f_X9_in z a1 0 (x6 - 1) q2.2).bind fun q7 =>
        if q7.1 = 0 then ((ick t 10 (f_X9_meets z t 2 q7.2)).bind fun q13 =>
          some (q13.1, q13.2))
        else ((getR t 10 12 q7.2).bind fun x8 =>
          (aldI x8 ((30 * a0) + a1) q7.2).bind fun x9 =>
          (putI t 10 2 x9 q7.2).bind fun g10 =>
          (getR t 10 12 g10).bind fun x11 =>
          (astI x11 ((30 * a0) + a1) a2 g10).bind fun g12 =>
          some (1, g12)))
      else ((ick t 10 (f_X9_meets z t 1 q2.2)).bind fun q14 =>
        some (q14.1, q14.2))))
set_option maxRecDepth 20000 in
theorem m_X9_lay (z : Nat) (t : Option Nm) (a0 : Int32) (a1 : Int32) (a2 : Int32) (g : Hp) : FM yX9_lay cX9_lay 4 (some .int) 2 43 rtI [sR t, sI a0, sI a1, sI a2] g (f_X9_lay z t a0 a1 a2 g) := by
  refine FM.entry (by decide +kernel) (Nat.le_of_ble_eq_true rfl) (fun X hX => ?_)
  unfold f_X9_lay
  show J yX9_lay cX9_lay 4 (some .int) 2 43 X g 0 [(0, sR t), (1, sI a0), (2, sI a1), (3, sI a2)] [] _
  refine j_aload_n (pc := 0) 0 dX9_lay_0 rfl rfl ?_
  refine j_iload_n (pc := 1) 1 dX9_lay_1 rfl rfl ?_
  refine j_callV (pc := 2) (own := RX9) [sI a0] [] dX9_lay_2 lc_X9_89 lv_X9_isStation rfl (m_X9_isStation z t a0 g) ⟨⟨Nat.le_of_ble_eq_true rfl, Nat.le_of_ble_eq_true rfl⟩, Nat.le_of_ble_eq_true rfl⟩ rfl rfl (fun q1r q1g => ?_)
  refine j_if_eq (pc := 5) (tgt := 19) dX9_lay_5 (by decide) rfl (fun hc => ?_) (fun hc => ?_)
  · refine j_iconst (pc := 19) (v := (-1)) dX9_lay_19 (by decide) ?_
    exact j_ireturn dX9_lay_20 hX rfl rfl
  · refine j_iload_n (pc := 8) 3 dX9_lay_8 rfl rfl ?_
    refine j_ldc (pc := 9) (own := RX9) (v := (-100000)) dX9_lay_9 rfl lk_X9_104 ?_
    refine j_ldc (pc := 11) (own := RX9) (v := 100000) dX9_lay_11 rfl lk_X9_96 ?_
    refine j_callS (pc := 13) (own := RX9) [sI a2, sI (-100000), sI 100000] [] dX9_lay_13 lc_X9_72 ls_X9_in rfl (m_X9_in z a2 (-100000) 100000 q1g) ⟨⟨Nat.le_of_ble_eq_true rfl, Nat.le_of_ble_eq_true rfl⟩, Nat.le_of_ble_eq_true rfl⟩ rfl rfl (fun q2r q2g => ?_)
    refine j_if_ne (pc := 16) (tgt := 21) dX9_lay_16 (by decide) rfl (fun hc => ?_) (fun hc => ?_)
    · refine j_aload_n (pc := 21) 0 dX9_lay_21 rfl rfl ?_
      refine j_getR (pc := 22) (own := RX9) dX9_lay_22 lf_X9_30 rfl rfl (fun x3 => ?_)
      refine j_iload_n (pc := 25) 1 dX9_lay_25 rfl rfl ?_
      refine j_aldI (pc := 26) dX9_lay_26 rfl (fun x4 => ?_)
      refine j_if_ge (pc := 27) (tgt := 36) dX9_lay_27 (by decide) rfl (fun hc => ?_) (fun hc => ?_)
      · refine j_iload_n (pc := 36) 2 dX9_lay_36 rfl rfl ?_
        refine j_iconst (pc := 37) (v := 0) dX9_lay_37 (by decide) ?_
        refine j_aload_n (pc := 38) 0 dX9_lay_38 rfl rfl ?_
        refine j_getR (pc := 39) (own := RX9) dX9_lay_39 lf_X9_30 rfl rfl (fun x5 => ?_)
        refine j_iload_n (pc := 42) 1 dX9_lay_42 rfl rfl ?_
        refine j_aldI (pc := 43) dX9_lay_43 rfl (fun x6 => ?_)
        refine j_iconst (pc := 44) (v := 1) dX9_lay_44 (by decide) ?_
        refine j_isub (pc := 45) dX9_lay_45 ?_
        refine j_callS (pc := 46) (own := RX9) [sI a1, sI 0, sI (x6 - 1)] [] dX9_lay_46 lc_X9_72 ls_X9_in rfl (m_X9_in z a1 0 (x6 - 1) q2g) ⟨⟨Nat.le_of_ble_eq_true rfl, Nat.le_of_ble_eq_true rfl⟩, Nat.le_of_ble_eq_true rfl⟩ rfl rfl (fun q7r q7g => ?_)
        refine j_if_ne (pc := 49) (tgt := 58) dX9_lay_49 (by decide) rfl (fun hc => ?_) (fun hc => ?_)
        · refine j_aload_n (pc := 58) 0 dX9_lay_58 rfl rfl ?_
          refine j_aload_n (pc := 59) 0 dX9_lay_59 rfl rfl ?_
          refine j_getR (pc := 60) (own := RX9) dX9_lay_60 lf_X9_33 rfl rfl (fun x8 => ?_)
          refine j_bipush (pc := 63) (v := 30) dX9_lay_63 (by decide) ?_
          refine j_iload_n (pc := 65) 1 dX9_lay_65 rfl rfl ?_
          refine j_imul (pc := 66) dX9_lay_66 ?_
          refine j_iload_n (pc := 67) 2 dX9_lay_67 rfl rfl ?_
          refine j_iadd (pc := 68) dX9_lay_68 ?_
          refine j_aldI (pc := 69) dX9_lay_69 rfl (fun x9 => ?_)
          refine j_putI (pc := 70) (own := RX9) dX9_lay_70 lf_X9_105 lt_10_2 lw_X9_105_X9_lay rfl rfl (fun g10 => ?_)
          refine j_aload_n (pc := 73) 0 dX9_lay_73 rfl rfl ?_
          refine j_getR (pc := 74) (own := RX9) dX9_lay_74 lf_X9_33 rfl rfl (fun x11 => ?_)
          refine j_bipush (pc := 77) (v := 30) dX9_lay_77 (by decide) ?_
          refine j_iload_n (pc := 79) 1 dX9_lay_79 rfl rfl ?_
          refine j_imul (pc := 80) dX9_lay_80 ?_
          refine j_iload_n (pc := 81) 2 dX9_lay_81 rfl rfl ?_
          refine j_iadd (pc := 82) dX9_lay_82 ?_
          refine j_iload_n (pc := 83) 3 dX9_lay_83 rfl rfl ?_
          refine j_astI (pc := 84) dX9_lay_84 rfl (fun g12 => ?_)
          refine j_iconst (pc := 85) (v := 1) dX9_lay_85 (by decide) ?_
          exact j_ireturn dX9_lay_86 hX rfl rfl
        · refine j_aload_n (pc := 52) 0 dX9_lay_52 rfl rfl ?_
          refine j_iconst (pc := 53) (v := 2) dX9_lay_53 (by decide) ?_
          refine j_callV (pc := 54) (own := RX9) [sI 2] [] dX9_lay_54 lc_X9_100 lv_X9_meets rfl (m_X9_meets z t 2 q7g) ⟨⟨Nat.le_of_ble_eq_true rfl, Nat.le_of_ble_eq_true rfl⟩, Nat.le_of_ble_eq_true rfl⟩ rfl rfl (fun q13r q13g => ?_)
          exact j_ireturn dX9_lay_57 hX rfl rfl
      · refine j_aload_n (pc := 30) 0 dX9_lay_30 rfl rfl ?_
        refine j_iconst (pc := 31) (v := 1) dX9_lay_31 (by decide) ?_
        refine j_callV (pc := 32) (own := RX9) [sI 1] [] dX9_lay_32 lc_X9_100 lv_X9_meets rfl (m_X9_meets z t 1 q2g) ⟨⟨Nat.le_of_ble_eq_true rfl, Nat.le_of_ble_eq_true rfl⟩, Nat.le_of_ble_eq_true rfl⟩ rfl rfl (fun q14r q14g => ?_)
        exact j_ireturn dX9_lay_35 hX rfl rfl
    · refine j_iconst (pc := 19) (v := (-1)) dX9_lay_19 (by decide) ?_
      exact j_ireturn dX9_lay_20 hX rfl rfl
/-! X9_tear -/
noncomputable def f_X9_tear (z : Nat) (t : Option Nm) (a0 : Int32) (g : Hp) : Option (Int32 × Hp) :=
  (ick t 10 (f_X9_isStation z t a0 g)).bind fun q1 =>
  if q1.1 = 0 then (some ((-1), q1.2))
  else ((getR t 10 11 q1.2).bind fun x2 =>
    (aldI x2 a0 q1.2).bind fun x3 =>
    if 0 ≤ x3 then ((getR t 10 11 q1.2).bind fun x4 =>
      (astI x4 a0 (-9) q1.2).bind fun g5 =>
      some (1, g5))
    else ((ick t 10 (f_X9_meets z t 1 q1.2)).bind fun q6 =>
      some (q6.1, q6.2)))
set_option maxRecDepth 20000 in
theorem m_X9_tear (z : Nat) (t : Option Nm) (a0 : Int32) (g : Hp) : FM yX9_tear cX9_tear 2 (some .int) 2 43 rtI [sR t, sI a0] g (f_X9_tear z t a0 g) := by
  refine FM.entry (by decide +kernel) (Nat.le_of_ble_eq_true rfl) (fun X hX => ?_)
  unfold f_X9_tear
  show J yX9_tear cX9_tear 2 (some .int) 2 43 X g 0 [(0, sR t), (1, sI a0)] [] _
  refine j_aload_n (pc := 0) 0 dX9_tear_0 rfl rfl ?_
  refine j_iload_n (pc := 1) 1 dX9_tear_1 rfl rfl ?_
  refine j_callV (pc := 2) (own := RX9) [sI a0] [] dX9_tear_2 lc_X9_89 lv_X9_isStation rfl (m_X9_isStation z t a0 g) ⟨⟨Nat.le_of_ble_eq_true rfl, Nat.le_of_ble_eq_true rfl⟩, Nat.le_of_ble_eq_true rfl⟩ rfl rfl (fun q1r q1g => ?_)
  refine j_if_ne (pc := 5) (tgt := 10) dX9_tear_5 (by decide) rfl (fun hc => ?_) (fun hc => ?_)
  · refine j_aload_n (pc := 10) 0 dX9_tear_10 rfl rfl ?_
    refine j_getR (pc := 11) (own := RX9) dX9_tear_11 lf_X9_30 rfl rfl (fun x2 => ?_)
    refine j_iload_n (pc := 14) 1 dX9_tear_14 rfl rfl ?_
    refine j_aldI (pc := 15) dX9_tear_15 rfl (fun x3 => ?_)
    refine j_if_ge (pc := 16) (tgt := 25) dX9_tear_16 (by decide) rfl (fun hc => ?_) (fun hc => ?_)
    · refine j_aload_n (pc := 25) 0 dX9_tear_25 rfl rfl ?_
      refine j_getR (pc := 26) (own := RX9) dX9_tear_26 lf_X9_30 rfl rfl (fun x4 => ?_)
      refine j_iload_n (pc := 29) 1 dX9_tear_29 rfl rfl ?_
      refine j_bipush (pc := 30) (v := (-9)) dX9_tear_30 (by decide) ?_
      refine j_astI (pc := 32) dX9_tear_32 rfl (fun g5 => ?_)
      refine j_iconst (pc := 33) (v := 1) dX9_tear_33 (by decide) ?_
      exact j_ireturn dX9_tear_34 hX rfl rfl
    · refine j_aload_n (pc := 19) 0 dX9_tear_19 rfl rfl ?_
      refine j_iconst (pc := 20) (v := 1) dX9_tear_20 (by decide) ?_
      refine j_callV (pc := 21) (own := RX9) [sI 1] [] dX9_tear_21 lc_X9_100 lv_X9_meets rfl (m_X9_meets z t 1 q1g) ⟨⟨Nat.le_of_ble_eq_true rfl, Nat.le_of_ble_eq_true rfl⟩, Nat.le_of_ble_eq_true rfl⟩ rfl rfl (fun q6r q6g => ?_)
      exact j_ireturn dX9_tear_24 hX rfl rfl
  · refine j_iconst (pc := 8) (v := (-1)) dX9_tear_8 (by decide) ?_
    exact j_ireturn dX9_tear_9 hX rfl rfl
/-! X9_copy -/
noncomputable def f_X9_copy_106_b (z : Nat) (p0 : Option Nm) (p1 : Int32) (p2 : Int32) (p3 : Int32) (p4 : Int32) (p5 : Int32) (rec : Int32 → Hp → Option (Int32 × Hp)) (v6 : Int32) (g : Hp) : Option (Int32 × Hp) :=
  if p5 ≤ v6 then (some (v6, g))
  else ((getR p0 10 14 g).bind fun x15 =>
    (getR p0 10 12 g).bind fun x16 =>
    (aldI x16 (((30 * p1) + p2) + v6) g).bind fun x17 =>
    (astI x15 v6 x17 g).bind fun g18 =>
    rec (v6 + 1) g18)
noncomputable def f_X9_copy_106_L (z : Nat) (p0 : Option Nm) (p1 : Int32) (p2 : Int32) (p3 : Int32) (p4 : Int32) (p5 : Int32) : Nat → Int32 → Hp → Option (Int32 × Hp)
  | 0, _, _ => none
  | n + 1, v6, g => f_X9_copy_106_b z p0 p1 p2 p3 p4 p5 (f_X9_copy_106_L z p0 p1 p2 p3 p4 p5 n) v6 g
noncomputable def f_X9_copy_143_b (z : Nat) (p0 : Option Nm) (p1 : Int32) (p2 : Int32) (p3 : Int32) (p4 : Int32) (p5 : Int32) (rec : Int32 → Hp → Option (Int32 × Hp)) (v6 : Int32) (g : Hp) : Option (Int32 × Hp) :=
  if p5 ≤ v6 then (some (v6, g))
  else ((getR p0 10 12 g).bind fun x20 =>
    (getR p0 10 14 g).bind fun x21 =>
    (aldI x21 v6 g).bind fun x22 =>
    (astI x20 (((30 * p3) + p4) + v6) x22 g).bind fun g23 =>
    rec (v6 + 1) g23)
noncomputable def f_X9_copy_143_L (z : Nat) (p0 : Option Nm) (p1 : Int32) (p2 : Int32) (p3 : Int32) (p4 : Int32) (p5 : Int32) : Nat → Int32 → Hp → Option (Int32 × Hp)
  | 0, _, _ => none
  | n + 1, v6, g => f_X9_copy_143_b z p0 p1 p2 p3 p4 p5 (f_X9_copy_143_L z p0 p1 p2 p3 p4 p5 n) v6 g
noncomputable def f_X9_copy (z : Nat) (t : Option Nm) (a0 : Int32) (a1 : Int32) (a2 : Int32) (a3 : Int32) (a4 : Int32) (g : Hp) : Option (Int32 × Hp) :=
  (ick t 10 (f_X9_isStation z t a0 g)).bind fun q1 =>
  if q1.1 = 0 then (some ((-1), q1.2))
  else ((ick t 10 (f_X9_isStation z t a2 q1.2)).bind fun q2 =>
    if q2.1 = 0 then (some ((-1), q2.2))
    else (if 0 ≤ a4 then ((getR t 10 11 q2.2).bind fun x3 =>
        (aldI x3 a0 q2.2).bind fun x4 =>
        if x4 < 0 then ((ick t 10 (f_X9_meets z t 1 q2.2)).bind fun q5 =>
          some (q5.1, q5.2))
        else ((getR t 10 11 q2.2).bind fun x6 =>
          (aldI x6 a2 q2.2).bind fun x7 =>
          if 0 ≤ x7 then (if a1 < 0 then ((ick t 10 (f_X9_meets z t 2 q2.2)).bind fun q8 =>
              some (q8.1, q8.2))
            else (if a3 < 0 then ((ick t 10 (f_X9_meets z t 2 q2.2)).bind fun q9 =>
                some (q9.1, q9.2))
              else ((getR t 10 11 q2.2).bind fun x10 =>
                (aldI x10 a0 q2.2).bind fun x11 =>
                if 0 < (lg_cmp ((a1 : Int32).toInt64 + (a4 : Int32).toInt64) (x11 : Int32).toInt64) then ((ick t 10 (f_X9_meets z t 2 q2.2)).bind fun q12 =>
                  some (q12.1, q12.2))
                else ((getR t 10 11 q2.2).bind fun x13 =>
                  (aldI x13 a2 q2.2).bind fun x14 =>
                  if (lg_cmp ((a3 : Int32).toInt64 + (a4 : Int32).toInt64) (x14 : Int32).toInt64) ≤ 0 then ((f_X9_copy_106_L z t a0 a1 a2 a3 a4 z 0 q2.2).bind fun q19 =>
                    (f_X9_copy_143_L z t a0 a1 a2 a3 a4 z 0 q19.2).bind fun q24 =>
                    some (1, q24.2))
                  else ((ick t 10 (f_X9_meets z t 2 q2.2)).bind fun q25 =>
                    some (q25.1, q25.2))))))
          else ((ick t 10 (f_X9_meets z t 1 q2.2)).bind fun q26 =>
            some (q26.1, q26.2))))
      else ((ick t 10 (f_X9_meets z t 5 q2.2)).bind fun q27 =>
        some (q27.1, q27.2))))
set_option maxRecDepth 20000 in
theorem b_X9_copy_106 {X : Xt Int32} (hX : IsM rtI X) (z : Nat) (p0 : Option Nm) (p1 : Int32) (p2 : Int32) (p3 : Int32) (p4 : Int32) (p5 : Int32) (rec : Int32 → Hp → Option (Int32 × Hp)) (K : Int32 × Hp → Option (Int32 × Hp)) (he : ∀ (v6 : Int32) (g : Hp), J yX9_copy cX9_copy 7 (some .int) 2 43 X g 140 [(6, sI v6), (0, sR p0), (1, sI p1), (2, sI p2), (3, sI p3), (4, sI p4), (5, sI p5)] [] (K (v6, g))) (hr : ∀ (v6 : Int32) (g : Hp), J yX9_copy cX9_copy 7 (some .int) 2 43 X g 106 [(6, sI v6), (0, sR p0), (1, sI p1), (2, sI p2), (3, sI p3), (4, sI p4), (5, sI p5)] [] ((rec v6 g).bind K)) (v6 : Int32) (g : Hp) : J yX9_copy cX9_copy 7 (some .int) 2 43 X g 106 [(6, sI v6), (0, sR p0), (1, sI p1), (2, sI p2), (3, sI p3), (4, sI p4), (5, sI p5)] [] ((f_X9_copy_106_b z p0 p1 p2 p3 p4 p5 rec v6 g).bind K) := by
  unfold f_X9_copy_106_b
  refine j_iload (pc := 106) 0 dX9_copy_106 rfl ?_
  refine j_iload (pc := 108) 6 dX9_copy_108 rfl ?_
  refine j_icmp_ge (pc := 110) (tgt := 140) dX9_copy_110 (by decide) bi (fun hc => ?_) (fun hc => ?_)
  · exact he v6 g
  · refine j_aload_n (pc := 113) 1 dX9_copy_113 rfl rfl ?_
    refine j_getR (pc := 114) (own := RX9) dX9_copy_114 lf_X9_39 rfl bb (fun x15 => ?_)
    refine j_iload (pc := 117) 0 dX9_copy_117 rfl ?_
    refine j_aload_n (pc := 119) 1 dX9_copy_119 rfl rfl ?_
    refine j_getR (pc := 120) (own := RX9) dX9_copy_120 lf_X9_33 rfl bb (fun x16 => ?_)
    refine j_bipush (pc := 123) (v := 30) dX9_copy_123 (by decide) ?_
    refine j_iload_n (pc := 125) 2 dX9_copy_125 rfl rfl ?_
    refine j_imul (pc := 126) dX9_copy_126 ?_
    refine j_iload_n (pc := 127) 3 dX9_copy_127 rfl rfl ?_
    refine j_iadd (pc := 128) dX9_copy_128 ?_
    refine j_iload (pc := 129) 0 dX9_copy_129 rfl ?_
    refine j_iadd (pc := 131) dX9_copy_131 ?_
    refine j_aldI (pc := 132) dX9_copy_132 bb (fun x17 => ?_)
    refine j_astI (pc := 133) dX9_copy_133 bb (fun g18 => ?_)
    refine j_iinc (pc := 134) (v := (v6 + 1)) (lv' := [(6, sI (v6 + 1)), (0, sR p0), (1, sI p1), (2, sI p2), (3, sI p3), (4, sI p4), (5, sI p5)]) 0 dX9_copy_134 rfl rfl (by decide) rfl ?_
    refine j_goto (pc := 137) (tgt := 106) dX9_copy_137 (by decide) ?_
    exact hr (v6 + 1) g18
set_option maxRecDepth 20000 in
theorem l_X9_copy_106 {X : Xt Int32} (hX : IsM rtI X) (z : Nat) (p0 : Option Nm) (p1 : Int32) (p2 : Int32) (p3 : Int32) (p4 : Int32) (p5 : Int32) (K : Int32 × Hp → Option (Int32 × Hp)) (he : ∀ (v6 : Int32) (g : Hp), J yX9_copy cX9_copy 7 (some .int) 2 43 X g 140 [(6, sI v6), (0, sR p0), (1, sI p1), (2, sI p2), (3, sI p3), (4, sI p4), (5, sI p5)] [] (K (v6, g))) : ∀ (n : Nat) (v6 : Int32) (g : Hp), J yX9_copy cX9_copy 7 (some .int) 2 43 X g 106 [(6, sI v6), (0, sR p0), (1, sI p1), (2, sI p2), (3, sI p3), (4, sI p4), (5, sI p5)] [] ((f_X9_copy_106_L z p0 p1 p2 p3 p4 p5 n v6 g).bind K)
  | 0, _, _ => J.eq rfl J.none
  | n + 1, v6, g => b_X9_copy_106 hX z p0 p1 p2 p3 p4 p5 _ K he (fun v6 g => l_X9_copy_106 hX z p0 p1 p2 p3 p4 p5 K he n v6 g) v6 g
set_option maxRecDepth 20000 in
theorem b_X9_copy_143 {X : Xt Int32} (hX : IsM rtI X) (z : Nat) (p0 : Option Nm) (p1 : Int32) (p2 : Int32) (p3 : Int32) (p4 : Int32) (p5 : Int32) (rec : Int32 → Hp → Option (Int32 × Hp)) (K : Int32 × Hp → Option (Int32 × Hp)) (he : ∀ (v6 : Int32) (g : Hp), J yX9_copy cX9_copy 7 (some .int) 2 43 X g 178 [(6, sI v6), (0, sR p0), (1, sI p1), (2, sI p2), (3, sI p3), (4, sI p4), (5, sI p5)] [] (K (v6, g))) (hr : ∀ (v6 : Int32) (g : Hp), J yX9_copy cX9_copy 7 (some .int) 2 43 X g 143 [(6, sI v6), (0, sR p0), (1, sI p1), (2, sI p2), (3, sI p3), (4, sI p4), (5, sI p5)] [] ((rec v6 g).bind K)) (v6 : Int32) (g : Hp) : J yX9_copy cX9_copy 7 (some .int) 2 43 X g 143 [(6, sI v6), (0, sR p0), (1, sI p1), (2, sI p2), (3, sI p3), (4, sI p4), (5, sI p5)] [] ((f_X9_copy_143_b z p0 p1 p2 p3 p4 p5 rec v6 g).bind K) := by
  unfold f_X9_copy_143_b
  refine j_iload (pc := 143) 0 dX9_copy_143 rfl ?_
  refine j_iload (pc := 145) 6 dX9_copy_145 rfl ?_
  refine j_icmp_ge (pc := 147) (tgt := 178) dX9_copy_147 (by decide) bi (fun hc => ?_) (fun hc => ?_)
  · exact he v6 g
  · refine j_aload_n (pc := 150) 1 dX9_copy_150 rfl rfl ?_
    refine j_getR (pc := 151) (own := RX9) dX9_copy_151 lf_X9_33 rfl bb (fun x20 => ?_)
    refine j_bipush (pc := 154) (v := 30) dX9_copy_154 (by decide) ?_
    refine j_iload_n (pc := 156) 4 dX9_copy_156 rfl rfl ?_
    refine j_imul (pc := 157) dX9_copy_157 ?_
    refine j_iload (pc := 158) 5 dX9_copy_158 rfl ?_
    refine j_iadd (pc := 160) dX9_copy_160 ?_
    refine j_iload (pc := 161) 0 dX9_copy_161 rfl ?_
    refine j_iadd (pc := 163) dX9_copy_163 ?_
    refine j_aload_n (pc := 164) 1 dX9_copy_164 rfl rfl ?_
    refine j_getR (pc := 165) (own := RX9) dX9_copy_165 lf_X9_39 rfl bb (fun x21 => ?_)
    refine j_iload (pc := 168) 0 dX9_copy_168 rfl ?_
    refine j_aldI (pc := 170) dX9_copy_170 bb (fun x22 => ?_)
    refine j_astI (pc := 171) dX9_copy_171 bb (fun g23 => ?_)
    refine j_iinc (pc := 172) (v := (v6 + 1)) (lv' := [(6, sI (v6 + 1)), (0, sR p0), (1, sI p1), (2, sI p2), (3, sI p3), (4, sI p4), (5, sI p5)]) 0 dX9_copy_172 rfl rfl (by decide) rfl ?_
    refine j_goto (pc := 175) (tgt := 143) dX9_copy_175 (by decide) ?_
    exact hr (v6 + 1) g23
set_option maxRecDepth 20000 in
theorem l_X9_copy_143 {X : Xt Int32} (hX : IsM rtI X) (z : Nat) (p0 : Option Nm) (p1 : Int32) (p2 : Int32) (p3 : Int32) (p4 : Int32) (p5 : Int32) (K : Int32 × Hp → Option (Int32 × Hp)) (he : ∀ (v6 : Int32) (g : Hp), J yX9_copy cX9_copy 7 (some .int) 2 43 X g 178 [(6, sI v6), (0, sR p0), (1, sI p1), (2, sI p2), (3, sI p3), (4, sI p4), (5, sI p5)] [] (K (v6, g))) : ∀ (n : Nat) (v6 : Int32) (g : Hp), J yX9_copy cX9_copy 7 (some .int) 2 43 X g 143 [(6, sI v6), (0, sR p0), (1, sI p1), (2, sI p2), (3, sI p3), (4, sI p4), (5, sI p5)] [] ((f_X9_copy_143_L z p0 p1 p2 p3 p4 p5 n v6 g).bind K)
  | 0, _, _ => J.eq rfl J.none
  | n + 1, v6, g => b_X9_copy_143 hX z p0 p1 p2 p3 p4 p5 _ K he (fun v6 g => l_X9_copy_143 hX z p0 p1 p2 p3 p4 p5 K he n v6 g) v6 g
set_option maxRecDepth 20000 in
theorem m_X9_copy (z : Nat) (t : Option Nm) (a0 : Int32) (a1 : Int32) (a2 : Int32) (a3 : Int32) (a4 : Int32) (g : Hp) : FM yX9_copy cX9_copy 7 (some .int) 2 43 rtI [sR t, sI a0, sI a1, sI a2, sI a3, sI a4] g (f_X9_copy z t a0 a1 a2 a3 a4 g) := by
  refine FM.entry (by decide +kernel) (Nat.le_of_ble_eq_true rfl) (fun X hX => ?_)
  unfold f_X9_copy
  show J yX9_copy cX9_copy 7 (some .int) 2 43 X g 0 [(0, sR t), (1, sI a0), (2, sI a1), (3, sI a2), (4, sI a3), (5, sI a4)] [] _
  refine j_aload_n (pc := 0) 0 dX9_copy_0 rfl rfl ?_
  refine j_iload_n (pc := 1) 1 dX9_copy_1 rfl rfl ?_
  refine j_callV (pc := 2) (own := RX9) [sI a0] [] dX9_copy_2 lc_X9_89 lv_X9_isStation rfl (m_X9_isStation z t a0 g) ⟨⟨Nat.le_of_ble_eq_true rfl, Nat.le_of_ble_eq_true rfl⟩, Nat.le_of_ble_eq_true rfl⟩ rfl rfl (fun q1r q1g => ?_)
  refine j_if_eq (pc := 5) (tgt := 16) dX9_copy_5 (by decide) rfl (fun hc => ?_) (fun hc => ?_)
  · refine j_iconst (pc := 16) (v := (-1)) dX9_copy_16 (by decide) ?_
    exact j_ireturn dX9_copy_17 hX rfl rfl
  · refine j_aload_n (pc := 8) 0 dX9_copy_8 rfl rfl ?_
    refine j_iload_n (pc := 9) 3 dX9_copy_9 rfl rfl ?_
    refine j_callV (pc := 10) (own := RX9) [sI a2] [] dX9_copy_10 lc_X9_89 lv_X9_isStation rfl (m_X9_isStation z t a2 q1g) ⟨⟨Nat.le_of_ble_eq_true rfl, Nat.le_of_ble_eq_true rfl⟩, Nat.le_of_ble_eq_true rfl⟩ rfl rfl (fun q2r q2g => ?_)
    refine j_if_ne (pc := 13) (tgt := 18) dX9_copy_13 (by decide) rfl (fun hc => ?_) (fun hc => ?_)
    · refine j_iload (pc := 18) 5 dX9_copy_18 rfl ?_
      refine j_if_ge (pc := 20) (tgt := 29) dX9_copy_20 (by decide) rfl (fun hc => ?_) (fun hc => ?_)
      · refine j_aload_n (pc := 29) 0 dX9_copy_29 rfl rfl ?_
        refine j_getR (pc := 30) (own := RX9) dX9_copy_30 lf_X9_30 rfl rfl (fun x3 => ?_)
        refine j_iload_n (pc := 33) 1 dX9_copy_33 rfl rfl ?_
        refine j_aldI (pc := 34) dX9_copy_34 rfl (fun x4 => ?_)
        refine j_if_lt (pc := 35) (tgt := 47) dX9_copy_35 (by decide) rfl (fun hc => ?_) (fun hc => ?_)
        · refine j_aload_n (pc := 47) 0 dX9_copy_47 rfl rfl ?_
          refine j_iconst (pc := 48) (v := 1) dX9_copy_48 (by decide) ?_
          refine j_callV (pc := 49) (own := RX9) [sI 1] [] dX9_copy_49 lc_X9_100 lv_X9_meets rfl (m_X9_meets z t 1 q2g) ⟨⟨Nat.le_of_ble_eq_true rfl, Nat.le_of_ble_eq_true rfl⟩, Nat.le_of_ble_eq_true rfl⟩ rfl rfl (fun q5r q5g => ?_)
          exact j_ireturn dX9_copy_52 hX rfl rfl
        · refine j_aload_n (pc := 38) 0 dX9_copy_38 rfl rfl ?_
          refine j_getR (pc := 39) (own := RX9) dX9_copy_39 lf_X9_30 rfl rfl (fun x6 => ?_)
          refine j_iload_n (pc := 42) 3 dX9_copy_42 rfl rfl ?_
          refine j_aldI (pc := 43) dX9_copy_43 rfl (fun x7 => ?_)
          refine j_if_ge (pc := 44) (tgt := 53) dX9_copy_44 (by decide) rfl (fun hc => ?_) (fun hc => ?_)
          · refine j_iload_n (pc := 53) 2 dX9_copy_53 rfl rfl ?_
            refine j_if_lt (pc := 54) (tgt := 97) dX9_copy_54 (by decide) rfl (fun hc => ?_) (fun hc => ?_)
            · refine j_aload_n (pc := 97) 0 dX9_copy_97 rfl rfl ?_
              refine j_iconst (pc := 98) (v := 2) dX9_copy_98 (by decide) ?_
              refine j_callV (pc := 99) (own := RX9) [sI 2] [] dX9_copy_99 lc_X9_100 lv_X9_meets rfl (m_X9_meets z t 2 q2g) ⟨⟨Nat.le_of_ble_eq_true rfl, Nat.le_of_ble_eq_true rfl⟩, Nat.le_of_ble_eq_true rfl⟩ rfl rfl (fun q8r q8g => ?_)
              exact j_ireturn dX9_copy_102 hX rfl rfl
            · refine j_iload (pc := 57) 4 dX9_copy_57 rfl ?_
              refine j_if_lt (pc := 59) (tgt := 97) dX9_copy_59 (by decide) rfl (fun hc => ?_) (fun hc => ?_)
              · refine j_aload_n (pc := 97) 0 dX9_copy_97 rfl rfl ?_
                refine j_iconst (pc := 98) (v := 2) dX9_copy_98 (by decide) ?_
                refine j_callV (pc := 99) (own := RX9) [sI 2] [] dX9_copy_99 lc_X9_100 lv_X9_meets rfl (m_X9_meets z t 2 q2g) ⟨⟨Nat.le_of_ble_eq_true rfl, Nat.le_of_ble_eq_true rfl⟩, Nat.le_of_ble_eq_true rfl⟩ rfl rfl (fun q9r q9g => ?_)
                exact j_ireturn dX9_copy_102 hX rfl rfl
              · refine j_iload_n (pc := 62) 2 dX9_copy_62 rfl rfl ?_
                refine j_i2l (pc := 63) dX9_copy_63 ?_
                refine j_iload (pc := 64) 5 dX9_copy_64 rfl ?_
                refine j_i2l (pc := 66) dX9_copy_66 ?_
                refine j_ladd (pc := 67) dX9_copy_67 ?_
                refine j_aload_n (pc := 68) 0 dX9_copy_68 rfl rfl ?_
                refine j_getR (pc := 69) (own := RX9) dX9_copy_69 lf_X9_30 rfl rfl (fun x10 => ?_)
                refine j_iload_n (pc := 72) 1 dX9_copy_72 rfl rfl ?_
                refine j_aldI (pc := 73) dX9_copy_73 rfl (fun x11 => ?_)
                refine j_i2l (pc := 74) dX9_copy_74 ?_
                refine j_lcmp (pc := 75) dX9_copy_75 ?_
                refine j_if_gt (pc := 76) (tgt := 97) dX9_copy_76 (by decide) rfl (fun hc => ?_) (fun hc => ?_)
                · refine j_aload_n (pc := 97) 0 dX9_copy_97 rfl rfl ?_
                  refine j_iconst (pc := 98) (v := 2) dX9_copy_98 (by decide) ?_
                  refine j_callV (pc := 99) (own := RX9) [sI 2] [] dX9_copy_99 lc_X9_100 lv_X9_meets rfl (m_X9_meets z t 2 q2g) ⟨⟨Nat.le_of_ble_eq_true rfl, Nat.le_of_ble_eq_true rfl⟩, Nat.le_of_ble_eq_true rfl⟩ rfl rfl (fun q12r q12g => ?_)
                  exact j_ireturn dX9_copy_102 hX rfl rfl
                · refine j_iload (pc := 79) 4 dX9_copy_79 rfl ?_
                  refine j_i2l (pc := 81) dX9_copy_81 ?_
                  refine j_iload (pc := 82) 5 dX9_copy_82 rfl ?_
                  refine j_i2l (pc := 84) dX9_copy_84 ?_
                  refine j_ladd (pc := 85) dX9_copy_85 ?_
                  refine j_aload_n (pc := 86) 0 dX9_copy_86 rfl rfl ?_
                  refine j_getR (pc := 87) (own := RX9) dX9_copy_87 lf_X9_30 rfl rfl (fun x13 => ?_)
                  refine j_iload_n (pc := 90) 3 dX9_copy_90 rfl rfl ?_
                  refine j_aldI (pc := 91) dX9_copy_91 rfl (fun x14 => ?_)
                  refine j_i2l (pc := 92) dX9_copy_92 ?_
                  refine j_lcmp (pc := 93) dX9_copy_93 ?_
                  refine j_if_le (pc := 94) (tgt := 103) dX9_copy_94 (by decide) rfl (fun hc => ?_) (fun hc => ?_)
                  · refine j_iconst (pc := 103) (v := 0) dX9_copy_103 (by decide) ?_
                    refine j_istore (pc := 104) (lv' := [(6, sI 0), (0, sR t), (1, sI a0), (2, sI a1), (3, sI a2), (4, sI a3), (5, sI a4)]) dX9_copy_104 (by decide) rfl ?_
                    refine l_X9_copy_106 hX z t a0 a1 a2 a3 a4 _ (fun q19_0 q19_g => ?_) z 0 q2g
                    refine j_iconst (pc := 140) (v := 0) dX9_copy_140 (by decide) ?_
                    refine j_istore (pc := 141) (lv' := [(6, sI 0), (0, sR t), (1, sI a0), (2, sI a1), (3, sI a2), (4, sI a3), (5, sI a4)]) dX9_copy_141 (by decide) rfl ?_
                    refine l_X9_copy_143 hX z t a0 a1 a2 a3 a4 _ (fun q24_0 q24_g => ?_) z 0 q19_g
                    refine j_iconst (pc := 178) (v := 1) dX9_copy_178 (by decide) ?_
                    exact j_ireturn dX9_copy_179 hX rfl rfl
                  · refine j_aload_n (pc := 97) 0 dX9_copy_97 rfl rfl ?_
                    refine j_iconst (pc := 98) (v := 2) dX9_copy_98 (by decide) ?_
                    refine j_callV (pc := 99) (own := RX9) [sI 2] [] dX9_copy_99 lc_X9_100 lv_X9_meets rfl (m_X9_meets z t 2 q2g) ⟨⟨Nat.le_of_ble_eq_true rfl, Nat.le_of_ble_eq_true rfl⟩, Nat.le_of_ble_eq_true rfl⟩ rfl rfl (fun q25r q25g => ?_)
                    exact j_ireturn dX9_copy_102 hX rfl rfl
          · refine j_aload_n (pc := 47) 0 dX9_copy_47 rfl rfl ?_
            refine j_iconst (pc := 48) (v := 1) dX9_copy_48 (by decide) ?_
            refine j_callV (pc := 49) (own := RX9) [sI 1] [] dX9_copy_49 lc_X9_100 lv_X9_meets rfl (m_X9_meets z t 1 q2g) ⟨⟨Nat.le_of_ble_eq_true rfl, Nat.le_of_ble_eq_true rfl⟩, Nat.le_of_ble_eq_true rfl⟩ rfl rfl (fun q26r q26g => ?_)
            exact j_ireturn dX9_copy_52 hX rfl rfl
      · refine j_aload_n (pc := 23) 0 dX9_copy_23 rfl rfl ?_
        refine j_iconst (pc := 24) (v := 5) dX9_copy_24 (by decide) ?_
        refine j_callV (pc := 25) (own := RX9) [sI 5] [] dX9_copy_25 lc_X9_100 lv_X9_meets rfl (m_X9_meets z t 5 q2g) ⟨⟨Nat.le_of_ble_eq_true rfl, Nat.le_of_ble_eq_true rfl⟩, Nat.le_of_ble_eq_true rfl⟩ rfl rfl (fun q27r q27g => ?_)
        exact j_ireturn dX9_copy_28 hX rfl rfl
    · refine j_iconst (pc := 16) (v := (-1)) dX9_copy_16 (by decide) ?_
      exact j_ireturn dX9_copy_17 hX rfl rfl
/-! X9_sumOf -/
noncomputable def f_X9_sumOf_6_b (z : Nat) (p0 : Option Nm) (p1 : Int32) (p2 : Int32) (p3 : Int32) (rec : Int32 → Int64 → Hp → Option (Int32 × Int64 × Hp)) (v6 : Int32) (v4 : Int64) (g : Hp) : Option (Int32 × Int64 × Hp) :=
  if (p2 + p3) ≤ v6 then (some (v6, v4, g))
  else ((getR p0 10 12 g).bind fun x1 =>
    (aldI x1 ((30 * p1) + v6) g).bind fun x2 =>
    ((if 0 ≤ x2 then (some ((x2 : Int32).toInt64))
      else (some (((0 - x2) : Int32).toInt64))) : Option (Int64)).bind fun q3 =>
    rec (v6 + 1) (v4 + q3) g)
noncomputable def f_X9_sumOf_6_L (z : Nat) (p0 : Option Nm) (p1 : Int32) (p2 : Int32) (p3 : Int32) : Nat → Int32 → Int64 → Hp → Option (Int32 × Int64 × Hp)
  | 0, _, _, _ => none
  | n + 1, v6, v4, g => f_X9_sumOf_6_b z p0 p1 p2 p3 (f_X9_sumOf_6_L z p0 p1 p2 p3 n) v6 v4 g
noncomputable def f_X9_sumOf (z : Nat) (t : Option Nm) (a0 : Int32) (a1 : Int32) (a2 : Int32) (g : Hp) : Option (Int64 × Hp) :=
  (f_X9_sumOf_6_L z t a0 a1 a2 z a1 0 g).bind fun q4 =>
  some (q4.2.1, q4.2.2)
set_option maxRecDepth 20000 in
theorem b_X9_sumOf_6 {X : Xt Int64} (hX : IsM rtL X) (z : Nat) (p0 : Option Nm) (p1 : Int32) (p2 : Int32) (p3 : Int32) (rec : Int32 → Int64 → Hp → Option (Int32 × Int64 × Hp)) (K : Int32 × Int64 × Hp → Option (Int64 × Hp)) (he : ∀ (v6 : Int32) (v4 : Int64) (g : Hp), J yX9_sumOf cX9_sumOf 8 (some .long) 0 0 X g 54 [(6, sI v6), (4, sL v4), (0, sR p0), (1, sI p1), (2, sI p2), (3, sI p3)] [] (K (v6, v4, g))) (hr : ∀ (v6 : Int32) (v4 : Int64) (g : Hp), J yX9_sumOf cX9_sumOf 8 (some .long) 0 0 X g 6 [(6, sI v6), (4, sL v4), (0, sR p0), (1, sI p1), (2, sI p2), (3, sI p3)] [] ((rec v6 v4 g).bind K)) (v6 : Int32) (v4 : Int64) (g : Hp) : J yX9_sumOf cX9_sumOf 8 (some .long) 0 0 X g 6 [(6, sI v6), (4, sL v4), (0, sR p0), (1, sI p1), (2, sI p2), (3, sI p3)] [] ((f_X9_sumOf_6_b z p0 p1 p2 p3 rec v6 v4 g).bind K) := by
  unfold f_X9_sumOf_6_b
  refine j_iload (pc := 6) 0 dX9_sumOf_6 rfl ?_
  refine j_iload_n (pc := 8) 4 dX9_sumOf_8 rfl rfl ?_
  refine j_iload_n (pc := 9) 5 dX9_sumOf_9 rfl rfl ?_
  refine j_iadd (pc := 10) dX9_sumOf_10 ?_
  refine j_icmp_ge (pc := 11) (tgt := 54) dX9_sumOf_11 (by decide) bi (fun hc => ?_) (fun hc => ?_)
  · exact he v6 v4 g
  · refine j_aload_n (pc := 14) 2 dX9_sumOf_14 rfl rfl ?_
    refine j_getR (pc := 15) (own := RX9) dX9_sumOf_15 lf_X9_33 rfl bb (fun x1 => ?_)
    refine j_bipush (pc := 18) (v := 30) dX9_sumOf_18 (by decide) ?_
    refine j_iload_n (pc := 20) 3 dX9_sumOf_20 rfl rfl ?_
    refine j_imul (pc := 21) dX9_sumOf_21 ?_
    refine j_iload (pc := 22) 0 dX9_sumOf_22 rfl ?_
    refine j_iadd (pc := 24) dX9_sumOf_24 ?_
    refine j_aldI (pc := 25) dX9_sumOf_25 bb (fun x2 => ?_)
    refine j_istore (pc := 26) (lv' := [(7, sI x2), (6, sI v6), (4, sL v4), (0, sR p0), (1, sI p1), (2, sI p2), (3, sI p3)]) dX9_sumOf_26 (by decide) rfl ?_
    refine j_lload (pc := 28) 2 dX9_sumOf_28 rfl ?_
    refine j_iload (pc := 30) 0 dX9_sumOf_30 rfl ?_
    refine J.eq bb ?_
    refine J.jn (σ := Int64) (fun q3 pr => J yX9_sumOf cX9_sumOf 8 (some .long) 0 0 X g 45 [(7, sI x2), (6, sI v6), (4, sL v4), (0, sR p0), (1, sI p1), (2, sI p2), (3, sI p3)] [sL q3, sL v4] pr) (fun K45 hK45 => ?_) (fun q3 => ?_)
    · refine j_if_ge (pc := 32) (tgt := 42) dX9_sumOf_32 (by decide) bi (fun hc => ?_) (fun hc => ?_)
      · refine j_iload (pc := 42) 0 dX9_sumOf_42 rfl ?_
        refine j_i2l (pc := 44) dX9_sumOf_44 ?_
        exact hK45 ((x2 : Int32).toInt64)
      · refine j_iload (pc := 35) 0 dX9_sumOf_35 rfl ?_
        refine j_ineg (pc := 37) dX9_sumOf_37 ?_
        refine j_i2l (pc := 38) dX9_sumOf_38 ?_
        refine j_goto (pc := 39) (tgt := 45) dX9_sumOf_39 (by decide) ?_
        exact hK45 (((0 - x2) : Int32).toInt64)
    · refine j_ladd (pc := 45) dX9_sumOf_45 ?_
      refine j_lstore (pc := 46) (lv' := [(4, sL (v4 + q3)), (7, sI x2), (6, sI v6), (0, sR p0), (1, sI p1), (2, sI p2), (3, sI p3)]) dX9_sumOf_46 (by decide) rfl ?_
      refine j_iinc (pc := 48) (v := (v6 + 1)) (lv' := [(6, sI (v6 + 1)), (4, sL (v4 + q3)), (7, sI x2), (0, sR p0), (1, sI p1), (2, sI p2), (3, sI p3)]) 2 dX9_sumOf_48 rfl rfl (by decide) rfl ?_
      refine j_goto (pc := 51) (tgt := 6) dX9_sumOf_51 (by decide) ?_
      refine J.sub [0, 1, 3, 4, 5, 6] rfl ?_
      exact hr (v6 + 1) (v4 + q3) g
set_option maxRecDepth 20000 in
theorem l_X9_sumOf_6 {X : Xt Int64} (hX : IsM rtL X) (z : Nat) (p0 : Option Nm) (p1 : Int32) (p2 : Int32) (p3 : Int32) (K : Int32 × Int64 × Hp → Option (Int64 × Hp)) (he : ∀ (v6 : Int32) (v4 : Int64) (g : Hp), J yX9_sumOf cX9_sumOf 8 (some .long) 0 0 X g 54 [(6, sI v6), (4, sL v4), (0, sR p0), (1, sI p1), (2, sI p2), (3, sI p3)] [] (K (v6, v4, g))) : ∀ (n : Nat) (v6 : Int32) (v4 : Int64) (g : Hp), J yX9_sumOf cX9_sumOf 8 (some .long) 0 0 X g 6 [(6, sI v6), (4, sL v4), (0, sR p0), (1, sI p1), (2, sI p2), (3, sI p3)] [] ((f_X9_sumOf_6_L z p0 p1 p2 p3 n v6 v4 g).bind K)
  | 0, _, _, _ => J.eq rfl J.none
  | n + 1, v6, v4, g => b_X9_sumOf_6 hX z p0 p1 p2 p3 _ K he (fun v6 v4 g => l_X9_sumOf_6 hX z p0 p1 p2 p3 K he n v6 v4 g) v6 v4 g
set_option maxRecDepth 20000 in
theorem m_X9_sumOf (z : Nat) (t : Option Nm) (a0 : Int32) (a1 : Int32) (a2 : Int32) (g : Hp) : FM yX9_sumOf cX9_sumOf 8 (some .long) 0 0 rtL [sR t, sI a0, sI a1, sI a2] g (f_X9_sumOf z t a0 a1 a2 g) := by
  refine FM.entry (by decide +kernel) (Nat.le_of_ble_eq_true rfl) (fun X hX => ?_)
  unfold f_X9_sumOf
  show J yX9_sumOf cX9_sumOf 8 (some .long) 0 0 X g 0 [(0, sR t), (1, sI a0), (2, sI a1), (3, sI a2)] [] _
  refine j_lconst (pc := 0) (v := 0) dX9_sumOf_0 (by decide) ?_
  refine j_lstore (pc := 1) (lv' := [(4, sL 0), (0, sR t), (1, sI a0), (2, sI a1), (3, sI a2)]) dX9_sumOf_1 (by decide) rfl ?_
  refine j_iload_n (pc := 3) 3 dX9_sumOf_3 rfl rfl ?_
  refine j_istore (pc := 4) (lv' := [(6, sI a1), (4, sL 0), (0, sR t), (1, sI a0), (2, sI a1), (3, sI a2)]) dX9_sumOf_4 (by decide) rfl ?_
  refine l_X9_sumOf_6 hX z t a0 a1 a2 _ (fun q4_0 q4_1 q4_g => ?_) z a1 0 g
  refine j_lload (pc := 54) 1 dX9_sumOf_54 rfl ?_
  exact j_lreturn dX9_sumOf_56 hX rfl rfl
/-! X9_mean -/
noncomputable def f_X9_mean (z : Nat) (t : Option Nm) (a0 : Int32) (g : Hp) : Option (Int32 × Hp) :=
  (ick t 10 (f_X9_isStation z t a0 g)).bind fun q1 =>
  if q1.1 = 0 then (some ((-1), q1.2))
  else ((getR t 10 11 q1.2).bind fun x2 =>
    (aldI x2 a0 q1.2).bind fun x3 =>
    if 0 ≤ x3 then ((getR t 10 11 q1.2).bind fun x4 =>
      (aldI x4 a0 q1.2).bind fun x5 =>
      if x5 = 0 then ((ick t 10 (f_X9_meets z t 4 q1.2)).bind fun q12 =>
        some (q12.1, q12.2))
      else ((getR t 10 11 q1.2).bind fun x6 =>
        (aldI x6 a0 q1.2).bind fun x7 =>
        (ick t 10 (f_X9_sumOf z t a0 0 x7 q1.2)).bind fun q8 =>
        (getR t 10 11 q8.2).bind fun x9 =>
        (aldI x9 a0 q8.2).bind fun x10 =>
        (dvL q8.1 (x10 : Int32).toInt64).bind fun x11 =>
        some ((x11 : Int64).toInt32, q8.2)))
    else ((ick t 10 (f_X9_meets z t 1 q1.2)).bind fun q13 =>
      some (q13.1, q13.2)))
set_option maxRecDepth 20000 in
theorem m_X9_mean (z : Nat) (t : Option Nm) (a0 : Int32) (g : Hp) : FM yX9_mean cX9_mean 2 (some .int) 2 43 rtI [sR t, sI a0] g (f_X9_mean z t a0 g) := by
  refine FM.entry (by decide +kernel) (Nat.le_of_ble_eq_true rfl) (fun X hX => ?_)
  unfold f_X9_mean
  show J yX9_mean cX9_mean 2 (some .int) 2 43 X g 0 [(0, sR t), (1, sI a0)] [] _
  refine j_aload_n (pc := 0) 0 dX9_mean_0 rfl rfl ?_
  refine j_iload_n (pc := 1) 1 dX9_mean_1 rfl rfl ?_
  refine j_callV (pc := 2) (own := RX9) [sI a0] [] dX9_mean_2 lc_X9_89 lv_X9_isStation rfl (m_X9_isStation z t a0 g) ⟨⟨Nat.le_of_ble_eq_true rfl, Nat.le_of_ble_eq_true rfl⟩, Nat.le_of_ble_eq_true rfl⟩ rfl rfl (fun q1r q1g => ?_)
  refine j_if_ne (pc := 5) (tgt := 10) dX9_mean_5 (by decide) rfl (fun hc => ?_) (fun hc => ?_)
  · refine j_aload_n (pc := 10) 0 dX9_mean_10 rfl rfl ?_
    refine j_getR (pc := 11) (own := RX9) dX9_mean_11 lf_X9_30 rfl rfl (fun x2 => ?_)
    refine j_iload_n (pc := 14) 1 dX9_mean_14 rfl rfl ?_
    refine j_aldI (pc := 15) dX9_mean_15 rfl (fun x3 => ?_)
    refine j_if_ge (pc := 16) (tgt := 25) dX9_mean_16 (by decide) rfl (fun hc => ?_) (fun hc => ?_)
    · refine j_aload_n (pc := 25) 0 dX9_mean_25 rfl rfl ?_
      refine j_getR (pc := 26) (own := RX9) dX9_mean_26 lf_X9_30 rfl rfl (fun x4 => ?_)
      refine j_iload_n (pc := 29) 1 dX9_mean_29 rfl rfl ?_
      refine j_aldI (pc := 30) dX9_mean_30 rfl (fun x5 => ?_)
      refine j_if_ne (pc := 31) (tgt := 42) dX9_mean_31 (by decide) rfl (fun hc => ?_) (fun hc => ?_)
      · refine j_aload_n (pc := 42) 0 dX9_mean_42 rfl rfl ?_
        refine j_iload_n (pc := 43) 1 dX9_mean_43 rfl rfl ?_
        refine j_iconst (pc := 44) (v := 0) dX9_mean_44 (by decide) ?_
        refine j_aload_n (pc := 45) 0 dX9_mean_45 rfl rfl ?_
        refine j_getR (pc := 46) (own := RX9) dX9_mean_46 lf_X9_30 rfl rfl (fun x6 => ?_)
        refine j_iload_n (pc := 49) 1 dX9_mean_49 rfl rfl ?_
        refine j_aldI (pc := 50) dX9_mean_50 rfl (fun x7 => ?_)
        refine j_callV (pc := 51) (own := RX9) [sI a0, sI 0, sI x7] [] dX9_mean_51 lc_X9_108 lv_X9_sumOf rfl (m_X9_sumOf z t a0 0 x7 q1g) ⟨⟨Nat.le_of_ble_eq_true rfl, Nat.le_of_ble_eq_true rfl⟩, Nat.le_of_ble_eq_true rfl⟩ rfl rfl (fun q8r q8g => ?_)
        refine j_aload_n (pc := 54) 0 dX9_mean_54 rfl rfl ?_
        refine j_getR (pc := 55) (own := RX9) dX9_mean_55 lf_X9_30 rfl rfl (fun x9 => ?_)
        refine j_iload_n (pc := 58) 1 dX9_mean_58 rfl rfl ?_
        refine j_aldI (pc := 59) dX9_mean_59 rfl (fun x10 => ?_)
        refine j_i2l (pc := 60) dX9_mean_60 ?_
        refine b_ldiv (pc := 61) dX9_mean_61 rfl (fun x11 => ?_)
        refine j_l2i (pc := 62) dX9_mean_62 ?_
        exact j_ireturn dX9_mean_63 hX rfl rfl
      · refine j_aload_n (pc := 34) 0 dX9_mean_34 rfl rfl ?_
        refine j_iconst (pc := 35) (v := 4) dX9_mean_35 (by decide) ?_
        refine j_callV (pc := 36) (own := RX9) [sI 4] [] dX9_mean_36 lc_X9_100 lv_X9_meets rfl (m_X9_meets z t 4 q1g) ⟨⟨Nat.le_of_ble_eq_true rfl, Nat.le_of_ble_eq_true rfl⟩, Nat.le_of_ble_eq_true rfl⟩ rfl rfl (fun q12r q12g => ?_)
        refine j_goto (pc := 39) (tgt := 63) dX9_mean_39 (by decide) ?_
        exact j_ireturn dX9_mean_63 hX rfl rfl
    · refine j_aload_n (pc := 19) 0 dX9_mean_19 rfl rfl ?_
      refine j_iconst (pc := 20) (v := 1) dX9_mean_20 (by decide) ?_
      refine j_callV (pc := 21) (own := RX9) [sI 1] [] dX9_mean_21 lc_X9_100 lv_X9_meets rfl (m_X9_meets z t 1 q1g) ⟨⟨Nat.le_of_ble_eq_true rfl, Nat.le_of_ble_eq_true rfl⟩, Nat.le_of_ble_eq_true rfl⟩ rfl rfl (fun q13r q13g => ?_)
      exact j_ireturn dX9_mean_24 hX rfl rfl
  · refine j_iconst (pc := 8) (v := (-1)) dX9_mean_8 (by decide) ?_
    exact j_ireturn dX9_mean_9 hX rfl rfl
/-! X9_first -/
noncomputable def f_X9_first_72_b (z : Nat) (p0 : Option Nm) (p1 : Int32) (p2 : Int32) (p3 : Int32) (p4 : Int32) (p5 : Int32) (rec : Int32 → Hp → Option (Int32 × Hp)) (v6 : Int32) (g : Hp) : Option (Int32 × Hp) :=
  (getR p0 10 11 g).bind fun x8 =>
  (aldI x8 p1 g).bind fun x9 =>
  if x9 < (v6 + p2) then (some ((-9), g))
  else ((ick p0 10 (f_X9_sumOf z p0 p1 v6 p2 g)).bind fun q10 =>
    (ick p0 10 (f_X9_sumOf z p0 p1 (v6 - p3) p3 q10.2)).bind fun q11 =>
    if (lg_cmp ((q10.1 * (p3 : Int32).toInt64) * (p5 : Int32).toInt64) ((q11.1 * (p2 : Int32).toInt64) * (p4 : Int32).toInt64)) ≤ 0 then (rec (v6 + 1) q11.2)
    else (some (v6, q11.2)))
noncomputable def f_X9_first_72_L (z : Nat) (p0 : Option Nm) (p1 : Int32) (p2 : Int32) (p3 : Int32) (p4 : Int32) (p5 : Int32) : Nat → Int32 → Hp → Option (Int32 × Hp)
  | 0, _, _ => none
  | n + 1, v6, g => f_X9_first_72_b z p0 p1 p2 p3 p4 p5 (f_X9_first_72_L z p0 p1 p2 p3 p4 p5 n) v6 g
noncomputable def f_X9_first (z : Nat) (t : Option Nm) (a0 : Int32) (a1 : Int32) (a2 : Int32) (a3 : Int32) (a4 : Int32) (g : Hp) : Option (Int32 × Hp) :=
  (ick t 10 (f_X9_isStation z t a0 g)).bind fun q1 =>
  if q1.1 = 0 then (some ((-1), q1.2))
  else ((f_X9_in z a1 1 10 q1.2).bind fun q2 =>
    if q2.1 = 0 then (some ((-1), q2.2))
    else ((f_X9_in z a2 1 10 q2.2).bind fun q3 =>
      if q3.1 = 0 then (some ((-1), q3.2))
      else ((f_X9_in z a3 1 1000 q3.2).bind fun q4 =>
        if q4.1 = 0 then (some ((-1), q4.2))
        else ((f_X9_in z a4 1 1000 q4.2).bind fun q5 =>
          if q5.1 = 0 then (some ((-1), q5.2))
          else ((getR t 10 11 q5.2).bind fun x6 =>
            (aldI x6 a0 q5.2).bind fun x7 =>
            if 0 ≤ x7 then (f_X9_first_72_L z t a0 a1 a2 a3 a4 z a2 q5.2)
            else ((ick t 10 (f_X9_meets z t 1 q5.2)).bind fun q13 =>
              some (q13.1, q13.2)))))))
set_option maxRecDepth 20000 in
theorem b_X9_first_72 {X : Xt Int32} (hX : IsM rtI X) (z : Nat) (p0 : Option Nm) (p1 : Int32) (p2 : Int32) (p3 : Int32) (p4 : Int32) (p5 : Int32) (rec : Int32 → Hp → Option (Int32 × Hp)) (hr : ∀ (v6 : Int32) (g : Hp), J yX9_first cX9_first 7 (some .int) 2 43 X g 72 [(6, sI v6), (0, sR p0), (1, sI p1), (2, sI p2), (3, sI p3), (4, sI p4), (5, sI p5)] [] (rec v6 g)) (v6 : Int32) (g : Hp) : J yX9_first cX9_first 7 (some .int) 2 43 X g 72 [(6, sI v6), (0, sR p0), (1, sI p1), (2, sI p2), (3, sI p3), (4, sI p4), (5, sI p5)] [] (f_X9_first_72_b z p0 p1 p2 p3 p4 p5 rec v6 g) := by
  unfold f_X9_first_72_b
  refine j_iload (pc := 72) 0 dX9_first_72 rfl ?_
  refine j_iload_n (pc := 74) 3 dX9_first_74 rfl rfl ?_
  refine j_iadd (pc := 75) dX9_first_75 ?_
  refine j_aload_n (pc := 76) 1 dX9_first_76 rfl rfl ?_
  refine j_getR (pc := 77) (own := RX9) dX9_first_77 lf_X9_30 rfl rfl (fun x8 => ?_)
  refine j_iload_n (pc := 80) 2 dX9_first_80 rfl rfl ?_
  refine j_aldI (pc := 81) dX9_first_81 rfl (fun x9 => ?_)
  refine j_icmp_gt (pc := 82) (tgt := 130) dX9_first_82 (by decide) rfl (fun hc => ?_) (fun hc => ?_)
  · refine j_bipush (pc := 130) (v := (-9)) dX9_first_130 (by decide) ?_
    exact j_ireturn dX9_first_132 hX rfl rfl
  · refine j_aload_n (pc := 85) 1 dX9_first_85 rfl rfl ?_
    refine j_iload_n (pc := 86) 2 dX9_first_86 rfl rfl ?_
    refine j_iload (pc := 87) 0 dX9_first_87 rfl ?_
    refine j_iload_n (pc := 89) 3 dX9_first_89 rfl rfl ?_
    refine j_callV (pc := 90) (own := RX9) [sI p1, sI v6, sI p2] [] dX9_first_90 lc_X9_108 lv_X9_sumOf rfl (m_X9_sumOf z p0 p1 v6 p2 g) ⟨⟨Nat.le_of_ble_eq_true rfl, Nat.le_of_ble_eq_true rfl⟩, Nat.le_of_ble_eq_true rfl⟩ rfl rfl (fun q10r q10g => ?_)
    refine j_iload_n (pc := 93) 4 dX9_first_93 rfl rfl ?_
    refine j_i2l (pc := 94) dX9_first_94 ?_
    refine j_lmul (pc := 95) dX9_first_95 ?_
    refine j_iload (pc := 96) 6 dX9_first_96 rfl ?_
    refine j_i2l (pc := 98) dX9_first_98 ?_
    refine j_lmul (pc := 99) dX9_first_99 ?_
    refine j_aload_n (pc := 100) 1 dX9_first_100 rfl rfl ?_
    refine j_iload_n (pc := 101) 2 dX9_first_101 rfl rfl ?_
    refine j_iload (pc := 102) 0 dX9_first_102 rfl ?_
    refine j_iload_n (pc := 104) 4 dX9_first_104 rfl rfl ?_
    refine j_isub (pc := 105) dX9_first_105 ?_
    refine j_iload_n (pc := 106) 4 dX9_first_106 rfl rfl ?_
    refine j_callV (pc := 107) (own := RX9) [sI p1, sI (v6 - p3), sI p3] [sL ((q10r * (p3 : Int32).toInt64) * (p5 : Int32).toInt64)] dX9_first_107 lc_X9_108 lv_X9_sumOf rfl (m_X9_sumOf z p0 p1 (v6 - p3) p3 q10g) ⟨⟨Nat.le_of_ble_eq_true rfl, Nat.le_of_ble_eq_true rfl⟩, Nat.le_of_ble_eq_true rfl⟩ rfl rfl (fun q11r q11g => ?_)
    refine j_iload_n (pc := 110) 3 dX9_first_110 rfl rfl ?_
    refine j_i2l (pc := 111) dX9_first_111 ?_
    refine j_lmul (pc := 112) dX9_first_112 ?_
    refine j_iload (pc := 113) 5 dX9_first_113 rfl ?_
    refine j_i2l (pc := 115) dX9_first_115 ?_
    refine j_lmul (pc := 116) dX9_first_116 ?_
    refine j_lcmp (pc := 117) dX9_first_117 ?_
    refine j_if_le (pc := 118) (tgt := 124) dX9_first_118 (by decide) rfl (fun hc => ?_) (fun hc => ?_)
    · refine j_iinc (pc := 124) (v := (v6 + 1)) (lv' := [(6, sI (v6 + 1)), (0, sR p0), (1, sI p1), (2, sI p2), (3, sI p3), (4, sI p4), (5, sI p5)]) 0 dX9_first_124 rfl rfl (by decide) rfl ?_
      refine j_goto (pc := 127) (tgt := 72) dX9_first_127 (by decide) ?_
      exact hr (v6 + 1) q11g
    · refine j_iload (pc := 121) 0 dX9_first_121 rfl ?_
      exact j_ireturn dX9_first_123 hX rfl rfl
set_option maxRecDepth 20000 in
theorem l_X9_first_72 {X : Xt Int32} (hX : IsM rtI X) (z : Nat) (p0 : Option Nm) (p1 : Int32) (p2 : Int32) (p3 : Int32) (p4 : Int32) (p5 : Int32) : ∀ (n : Nat) (v6 : Int32) (g : Hp), J yX9_first cX9_first 7 (some .int) 2 43 X g 72 [(6, sI v6), (0, sR p0), (1, sI p1), (2, sI p2), (3, sI p3), (4, sI p4), (5, sI p5)] [] (f_X9_first_72_L z p0 p1 p2 p3 p4 p5 n v6 g)
  | 0, _, _ => J.none
  | n + 1, v6, g => b_X9_first_72 hX z p0 p1 p2 p3 p4 p5 _ (fun v6 g => l_X9_first_72 hX z p0 p1 p2 p3 p4 p5 n v6 g) v6 g
set_option maxRecDepth 20000 in
theorem m_X9_first (z : Nat) (t : Option Nm) (a0 : Int32) (a1 : Int32) (a2 : Int32) (a3 : Int32) (a4 : Int32) (g : Hp) : FM yX9_first cX9_first 7 (some .int) 2 43 rtI [sR t, sI a0, sI a1, sI a2, sI a3, sI a4] g (f_X9_first z t a0 a1 a2 a3 a4 g) := by
  refine FM.entry (by decide +kernel) (Nat.le_of_ble_eq_true rfl) (fun X hX => ?_)
  unfold f_X9_first
  show J yX9_first cX9_first 7 (some .int) 2 43 X g 0 [(0, sR t), (1, sI a0), (2, sI a1), (3, sI a2), (4, sI a3), (5, sI a4)] [] _
  refine j_aload_n (pc := 0) 0 dX9_first_0 rfl rfl ?_
  refine j_iload_n (pc := 1) 1 dX9_first_1 rfl rfl ?_
  refine j_callV (pc := 2) (own := RX9) [sI a0] [] dX9_first_2 lc_X9_89 lv_X9_isStation rfl (m_X9_isStation z t a0 g) ⟨⟨Nat.le_of_ble_eq_true rfl, Nat.le_of_ble_eq_true rfl⟩, Nat.le_of_ble_eq_true rfl⟩ rfl rfl (fun q1r q1g => ?_)
  refine j_if_eq (pc := 5) (tgt := 52) dX9_first_5 (by decide) rfl (fun hc => ?_) (fun hc => ?_)
  · refine j_iconst (pc := 52) (v := (-1)) dX9_first_52 (by decide) ?_
    exact j_ireturn dX9_first_53 hX rfl rfl
  · refine j_iload_n (pc := 8) 2 dX9_first_8 rfl rfl ?_
    refine j_iconst (pc := 9) (v := 1) dX9_first_9 (by decide) ?_
    refine j_bipush (pc := 10) (v := 10) dX9_first_10 (by decide) ?_
    refine j_callS (pc := 12) (own := RX9) [sI a1, sI 1, sI 10] [] dX9_first_12 lc_X9_72 ls_X9_in rfl (m_X9_in z a1 1 10 q1g) ⟨⟨Nat.le_of_ble_eq_true rfl, Nat.le_of_ble_eq_true rfl⟩, Nat.le_of_ble_eq_true rfl⟩ rfl rfl (fun q2r q2g => ?_)
    refine j_if_eq (pc := 15) (tgt := 52) dX9_first_15 (by decide) rfl (fun hc => ?_) (fun hc => ?_)
    · refine j_iconst (pc := 52) (v := (-1)) dX9_first_52 (by decide) ?_
      exact j_ireturn dX9_first_53 hX rfl rfl
    · refine j_iload_n (pc := 18) 3 dX9_first_18 rfl rfl ?_
      refine j_iconst (pc := 19) (v := 1) dX9_first_19 (by decide) ?_
      refine j_bipush (pc := 20) (v := 10) dX9_first_20 (by decide) ?_
      refine j_callS (pc := 22) (own := RX9) [sI a2, sI 1, sI 10] [] dX9_first_22 lc_X9_72 ls_X9_in rfl (m_X9_in z a2 1 10 q2g) ⟨⟨Nat.le_of_ble_eq_true rfl, Nat.le_of_ble_eq_true rfl⟩, Nat.le_of_ble_eq_true rfl⟩ rfl rfl (fun q3r q3g => ?_)
      refine j_if_eq (pc := 25) (tgt := 52) dX9_first_25 (by decide) rfl (fun hc => ?_) (fun hc => ?_)
      · refine j_iconst (pc := 52) (v := (-1)) dX9_first_52 (by decide) ?_
        exact j_ireturn dX9_first_53 hX rfl rfl
      · refine j_iload (pc := 28) 4 dX9_first_28 rfl ?_
        refine j_iconst (pc := 30) (v := 1) dX9_first_30 (by decide) ?_
        refine j_sipush (pc := 31) (v := 1000) dX9_first_31 (by decide) ?_
        refine j_callS (pc := 34) (own := RX9) [sI a3, sI 1, sI 1000] [] dX9_first_34 lc_X9_72 ls_X9_in rfl (m_X9_in z a3 1 1000 q3g) ⟨⟨Nat.le_of_ble_eq_true rfl, Nat.le_of_ble_eq_true rfl⟩, Nat.le_of_ble_eq_true rfl⟩ rfl rfl (fun q4r q4g => ?_)
        refine j_if_eq (pc := 37) (tgt := 52) dX9_first_37 (by decide) rfl (fun hc => ?_) (fun hc => ?_)
        · refine j_iconst (pc := 52) (v := (-1)) dX9_first_52 (by decide) ?_
          exact j_ireturn dX9_first_53 hX rfl rfl
        · refine j_iload (pc := 40) 5 dX9_first_40 rfl ?_
          refine j_iconst (pc := 42) (v := 1) dX9_first_42 (by decide) ?_
          refine j_sipush (pc := 43) (v := 1000) dX9_first_43 (by decide) ?_
          refine j_callS (pc := 46) (own := RX9) [sI a4, sI 1, sI 1000] [] dX9_first_46 lc_X9_72 ls_X9_in rfl (m_X9_in z a4 1 1000 q4g) ⟨⟨Nat.le_of_ble_eq_true rfl, Nat.le_of_ble_eq_true rfl⟩, Nat.le_of_ble_eq_true rfl⟩ rfl rfl (fun q5r q5g => ?_)
          refine j_if_ne (pc := 49) (tgt := 54) dX9_first_49 (by decide) rfl (fun hc => ?_) (fun hc => ?_)
          · refine j_aload_n (pc := 54) 0 dX9_first_54 rfl rfl ?_
            refine j_getR (pc := 55) (own := RX9) dX9_first_55 lf_X9_30 rfl rfl (fun x6 => ?_)
            refine j_iload_n (pc := 58) 1 dX9_first_58 rfl rfl ?_
            refine j_aldI (pc := 59) dX9_first_59 rfl (fun x7 => ?_)
            refine j_if_ge (pc := 60) (tgt := 69) dX9_first_60 (by decide) rfl (fun hc => ?_) (fun hc => ?_)
            · refine j_iload_n (pc := 69) 3 dX9_first_69 rfl rfl ?_
              refine j_istore (pc := 70) (lv' := [(6, sI a2), (0, sR t), (1, sI a0), (2, sI a1), (3, sI a2), (4, sI a3), (5, sI a4)]) dX9_first_70 (by decide) rfl ?_
              exact l_X9_first_72 hX z t a0 a1 a2 a3 a4 z a2 q5g
            · refine j_aload_n (pc := 63) 0 dX9_first_63 rfl rfl ?_
              refine j_iconst (pc := 64) (v := 1) dX9_first_64 (by decide) ?_
              refine j_callV (pc := 65) (own := RX9) [sI 1] [] dX9_first_65 lc_X9_100 lv_X9_meets rfl (m_X9_meets z t 1 q5g) ⟨⟨Nat.le_of_ble_eq_true rfl, Nat.le_of_ble_eq_true rfl⟩, Nat.le_of_ble_eq_true rfl⟩ rfl rfl (fun q13r q13g => ?_)
              exact j_ireturn dX9_first_68 hX rfl rfl
          · refine j_iconst (pc := 52) (v := (-1)) dX9_first_52 (by decide) ?_
            exact j_ireturn dX9_first_53 hX rfl rfl
/-! X9_hears -/
noncomputable def f_X9_hears_5_b (z : Nat) (p0 : Option Nm) (p1 : Int32) (p2 : Int32) (rec : Int32 → Int32 → Hp → Option (Int32 × Int32 × Hp)) (v4 : Int32) (v3 : Int32) (g : Hp) : Option (Int32 × Int32 × Hp) :=
  (getI p0 10 15 g).bind fun x1 =>
  if x1 ≤ v4 then (some (v4, v3, g))
  else (if v3 = 0 then ((getR p0 10 19 g).bind fun x2 =>
      (aldI x2 v4 g).bind fun x3 =>
      if x3 = p1 then ((getR p0 10 16 g).bind fun x4 =>
        (aldI x4 v4 g).bind fun x5 =>
        if x5 = p2 then (rec (v4 + 1) 1 g)
        else (rec (v4 + 1) 0 g))
      else (rec (v4 + 1) 0 g))
    else (rec (v4 + 1) 1 g))
noncomputable def f_X9_hears_5_L (z : Nat) (p0 : Option Nm) (p1 : Int32) (p2 : Int32) : Nat → Int32 → Int32 → Hp → Option (Int32 × Int32 × Hp)
  | 0, _, _, _ => none
  | n + 1, v4, v3, g => f_X9_hears_5_b z p0 p1 p2 (f_X9_hears_5_L z p0 p1 p2 n) v4 v3 g
noncomputable def f_X9_hears (z : Nat) (t : Option Nm) (a0 : Int32) (a1 : Int32) (g : Hp) : Option (Int32 × Hp) :=
  (f_X9_hears_5_L z t a0 a1 z 0 0 g).bind fun q6 =>
  rtZ q6.2.1 q6.2.2
set_option maxRecDepth 20000 in
theorem b_X9_hears_5 {X : Xt Int32} (hX : IsM rtI X) (z : Nat) (p0 : Option Nm) (p1 : Int32) (p2 : Int32) (rec : Int32 → Int32 → Hp → Option (Int32 × Int32 × Hp)) (K : Int32 × Int32 × Hp → Option (Int32 × Hp)) (he : ∀ (v4 : Int32) (v3 : Int32) (g : Hp), J yX9_hears cX9_hears 5 (some .boolean) 0 0 X g 52 [(4, sI v4), (3, sI v3), (0, sR p0), (1, sI p1), (2, sI p2)] [] (K (v4, v3, g))) (hr : ∀ (v4 : Int32) (v3 : Int32) (g : Hp), J yX9_hears cX9_hears 5 (some .boolean) 0 0 X g 5 [(4, sI v4), (3, sI v3), (0, sR p0), (1, sI p1), (2, sI p2)] [] ((rec v4 v3 g).bind K)) (v4 : Int32) (v3 : Int32) (g : Hp) : J yX9_hears cX9_hears 5 (some .boolean) 0 0 X g 5 [(4, sI v4), (3, sI v3), (0, sR p0), (1, sI p1), (2, sI p2)] [] ((f_X9_hears_5_b z p0 p1 p2 rec v4 v3 g).bind K) := by
  unfold f_X9_hears_5_b
  refine j_iload (pc := 5) 0 dX9_hears_5 rfl ?_
  refine j_aload_n (pc := 7) 2 dX9_hears_7 rfl rfl ?_
  refine j_getI (pc := 8) (own := RX9) dX9_hears_8 lf_X9_76 rfl bb (fun x1 => ?_)
  refine j_icmp_ge (pc := 11) (tgt := 52) dX9_hears_11 (by decide) bi (fun hc => ?_) (fun hc => ?_)
  · exact he v4 v3 g
  · refine j_iload_n (pc := 14) 1 dX9_hears_14 rfl rfl ?_
    refine j_if_ne (pc := 15) (tgt := 40) dX9_hears_15 (by decide) bi (fun hc => ?_) (fun hc => ?_)
    · refine j_iconst (pc := 40) (v := 1) dX9_hears_40 (by decide) ?_
      refine j_goto (pc := 41) (tgt := 45) dX9_hears_41 (by decide) ?_
      refine j_istore_n (pc := 45) (lv' := [(3, sI 1), (4, sI v4), (0, sR p0), (1, sI p1), (2, sI p2)]) dX9_hears_45 rfl (by decide) rfl ?_
      refine j_iinc (pc := 46) (v := (v4 + 1)) (lv' := [(4, sI (v4 + 1)), (3, sI 1), (0, sR p0), (1, sI p1), (2, sI p2)]) 1 dX9_hears_46 rfl rfl (by decide) rfl ?_
      refine j_goto (pc := 49) (tgt := 5) dX9_hears_49 (by decide) ?_
      exact hr (v4 + 1) 1 g
    · refine j_aload_n (pc := 18) 2 dX9_hears_18 rfl rfl ?_
      refine j_getR (pc := 19) (own := RX9) dX9_hears_19 lf_X9_51 rfl bb (fun x2 => ?_)
      refine j_iload (pc := 22) 0 dX9_hears_22 rfl ?_
      refine j_aldI (pc := 24) dX9_hears_24 bb (fun x3 => ?_)
      refine j_iload_n (pc := 25) 3 dX9_hears_25 rfl rfl ?_
      refine j_icmp_ne (pc := 26) (tgt := 44) dX9_hears_26 (by decide) bi (fun hc => ?_) (fun hc => ?_)
      · refine j_iconst (pc := 44) (v := 0) dX9_hears_44 (by decide) ?_
        refine j_istore_n (pc := 45) (lv' := [(3, sI 0), (4, sI v4), (0, sR p0), (1, sI p1), (2, sI p2)]) dX9_hears_45 rfl (by decide) rfl ?_
        refine j_iinc (pc := 46) (v := (v4 + 1)) (lv' := [(4, sI (v4 + 1)), (3, sI 0), (0, sR p0), (1, sI p1), (2, sI p2)]) 1 dX9_hears_46 rfl rfl (by decide) rfl ?_
        refine j_goto (pc := 49) (tgt := 5) dX9_hears_49 (by decide) ?_
        exact hr (v4 + 1) 0 g
      · refine j_aload_n (pc := 29) 2 dX9_hears_29 rfl rfl ?_
        refine j_getR (pc := 30) (own := RX9) dX9_hears_30 lf_X9_42 rfl bb (fun x4 => ?_)
        refine j_iload (pc := 33) 0 dX9_hears_33 rfl ?_
        refine j_aldI (pc := 35) dX9_hears_35 bb (fun x5 => ?_)
        refine j_iload_n (pc := 36) 4 dX9_hears_36 rfl rfl ?_
        refine j_icmp_ne (pc := 37) (tgt := 44) dX9_hears_37 (by decide) bi (fun hc => ?_) (fun hc => ?_)
        · refine j_iconst (pc := 44) (v := 0) dX9_hears_44 (by decide) ?_
          refine j_istore_n (pc := 45) (lv' := [(3, sI 0), (4, sI v4), (0, sR p0), (1, sI p1), (2, sI p2)]) dX9_hears_45 rfl (by decide) rfl ?_
          refine j_iinc (pc := 46) (v := (v4 + 1)) (lv' := [(4, sI (v4 + 1)), (3, sI 0), (0, sR p0), (1, sI p1), (2, sI p2)]) 1 dX9_hears_46 rfl rfl (by decide) rfl ?_
          refine j_goto (pc := 49) (tgt := 5) dX9_hears_49 (by decide) ?_
          exact hr (v4 + 1) 0 g
        · refine j_iconst (pc := 40) (v := 1) dX9_hears_40 (by decide) ?_
          refine j_goto (pc := 41) (tgt := 45) dX9_hears_41 (by decide) ?_
          refine j_istore_n (pc := 45) (lv' := [(3, sI 1), (4, sI v4), (0, sR p0), (1, sI p1), (2, sI p2)]) dX9_hears_45 rfl (by decide) rfl ?_
          refine j_iinc (pc := 46) (v := (v4 + 1)) (lv' := [(4, sI (v4 + 1)), (3, sI 1), (0, sR p0), (1, sI p1), (2, sI p2)]) 1 dX9_hears_46 rfl rfl (by decide) rfl ?_
          refine j_goto (pc := 49) (tgt := 5) dX9_hears_49 (by decide) ?_
          exact hr (v4 + 1) 1 g
set_option maxRecDepth 20000 in
theorem l_X9_hears_5 {X : Xt Int32} (hX : IsM rtI X) (z : Nat) (p0 : Option Nm) (p1 : Int32) (p2 : Int32) (K : Int32 × Int32 × Hp → Option (Int32 × Hp)) (he : ∀ (v4 : Int32) (v3 : Int32) (g : Hp), J yX9_hears cX9_hears 5 (some .boolean) 0 0 X g 52 [(4, sI v4), (3, sI v3), (0, sR p0), (1, sI p1), (2, sI p2)] [] (K (v4, v3, g))) : ∀ (n : Nat) (v4 : Int32) (v3 : Int32) (g : Hp), J yX9_hears cX9_hears 5 (some .boolean) 0 0 X g 5 [(4, sI v4), (3, sI v3), (0, sR p0), (1, sI p1), (2, sI p2)] [] ((f_X9_hears_5_L z p0 p1 p2 n v4 v3 g).bind K)
  | 0, _, _, _ => J.eq rfl J.none
  | n + 1, v4, v3, g => b_X9_hears_5 hX z p0 p1 p2 _ K he (fun v4 v3 g => l_X9_hears_5 hX z p0 p1 p2 K he n v4 v3 g) v4 v3 g
set_option maxRecDepth 20000 in
theorem m_X9_hears (z : Nat) (t : Option Nm) (a0 : Int32) (a1 : Int32) (g : Hp) : FM yX9_hears cX9_hears 5 (some .boolean) 0 0 rtI [sR t, sI a0, sI a1] g (f_X9_hears z t a0 a1 g) := by
  refine FM.entry (by decide +kernel) (Nat.le_of_ble_eq_true rfl) (fun X hX => ?_)
  unfold f_X9_hears
  show J yX9_hears cX9_hears 5 (some .boolean) 0 0 X g 0 [(0, sR t), (1, sI a0), (2, sI a1)] [] _
  refine j_iconst (pc := 0) (v := 0) dX9_hears_0 (by decide) ?_
  refine j_istore_n (pc := 1) (lv' := [(3, sI 0), (0, sR t), (1, sI a0), (2, sI a1)]) dX9_hears_1 rfl (by decide) rfl ?_
  refine j_iconst (pc := 2) (v := 0) dX9_hears_2 (by decide) ?_
  refine j_istore (pc := 3) (lv' := [(4, sI 0), (3, sI 0), (0, sR t), (1, sI a0), (2, sI a1)]) dX9_hears_3 (by decide) rfl ?_
  refine l_X9_hears_5 hX z t a0 a1 _ (fun q6_0 q6_1 q6_g => ?_) z 0 0 g
  refine j_iload_n (pc := 52) 1 dX9_hears_52 rfl rfl ?_
  exact j_zreturn dX9_hears_53 hX rfl rfl
/-! X9_setHeap -/
noncomputable def f_X9_setHeap_30_b (z : Nat) (p3 : Int32) (p2 : Int32) (p0 : Option Nm) (p1 : Int32) (rec : Int32 → Hp → Option (Int32 × Hp)) (v4 : Int32) (g : Hp) : Option (Int32 × Hp) :=
  (getI p0 10 15 g).bind fun x5 =>
  if x5 ≤ v4 then (some (v4, g))
  else ((getR p0 10 19 g).bind fun x6 =>
    (aldI x6 v4 g).bind fun x7 =>
    if x7 = p1 then ((getR p0 10 17 g).bind fun x8 =>
      (aldI x8 v4 g).bind fun x9 =>
      (getR p0 10 7 g).bind fun x10 =>
      (getR p0 10 16 g).bind fun x11 =>
      (aldI x11 v4 g).bind fun x12 =>
      (aldI x10 x12 g).bind fun x13 =>
      (ick p0 10 (f_X9_travels z p0 p3 x13 g)).bind fun q14 =>
      (getR p0 10 22 q14.2).bind fun x15 =>
      (getI p0 10 4 q14.2).bind fun x16 =>
      (getR p0 10 22 q14.2).bind fun x17 =>
      (aldI x17 p3 q14.2).bind fun x18 =>
      ((if ((x9 - q14.1) - x16) ≤ x18 then ((getR p0 10 22 q14.2).bind fun x19 =>
          (aldI x19 p3 q14.2).bind fun x20 =>
          some (x20))
        else ((getI p0 10 4 q14.2).bind fun x21 =>
          some (((x9 - q14.1) - x21)))) : Option (Int32)).bind fun q22 =>
      (astI x15 p3 q22 q14.2).bind fun g23 =>
      (getR p0 10 23 g23).bind fun x24 =>
      (getI p0 10 4 g23).bind fun x25 =>
      (getR p0 10 23 g23).bind fun x26 =>
      (aldI x26 p3 g23).bind fun x27 =>
      if x27 ≤ ((x9 - q14.1) + x25) then ((getR p0 10 23 g23).bind fun x28 =>
        (aldI x28 p3 g23).bind fun x29 =>
        (astI x24 p3 x29 g23).bind fun g30 =>
        rec (v4 + 1) g30)
      else ((getI p0 10 4 g23).bind fun x31 =>
        (astI x24 p3 ((x9 - q14.1) + x31) g23).bind fun g32 =>
        rec (v4 + 1) g32))
    else (rec (v4 + 1) g))
noncomputable def f_X9_setHeap_30_L (z : Nat) (p3 : Int32) (p2 : Int32) (p0 : Option Nm) (p1 : Int32) : Nat → Int32 → Hp → Option (Int32 × Hp)
  | 0, _, _ => none
  | n + 1, v4, g => f_X9_setHeap_30_b z p3 p2 p0 p1 (f_X9_setHeap_30_L z p3 p2 p0 p1 n) v4 g
noncomputable def f_X9_setHeap_162_b (z : Nat) (p3 : Int32) (p2 : Int32) (p0 : Option Nm) (p1 : Int32) (rec : Int32 → Hp → Option (Int32 × Hp)) (v4 : Int32) (g : Hp) : Option (Int32 × Hp) :=
  (getI p0 10 6 g).bind fun x34 =>
  if x34 ≤ v4 then (some (v4, g))
  else ((getR p0 10 22 g).bind fun x35 =>
    (aldI x35 p3 g).bind fun x36 =>
    (getR p0 10 23 g).bind fun x37 =>
    (aldI x37 p3 g).bind fun x38 =>
    if x38 < x36 then (some (v4, g))
    else ((getI p0 10 5 g).bind fun x39 =>
      (getR p0 10 7 g).bind fun x40 =>
      (aldI x40 v4 g).bind fun x41 =>
      (ick p0 10 (f_X9_travels z p0 p3 x41 g)).bind fun q42 =>
      (getI p0 10 4 q42.2).bind fun x43 =>
      (getR p0 10 22 q42.2).bind fun x44 =>
      (getR p0 10 8 q42.2).bind fun x45 =>
      (aldZ x45 v4 q42.2).bind fun x46 =>
      if x46 = 0 then ((getR p0 10 22 q42.2).bind fun x50 =>
        (aldI x50 p3 q42.2).bind fun x51 =>
        if ((x39 - q42.1) - x43) ≤ x51 then ((getR p0 10 22 q42.2).bind fun x52 =>
          (aldI x52 p3 q42.2).bind fun x53 =>
          (astI x44 p3 x53 q42.2).bind fun g54 =>
          rec (v4 + 1) g54)
        else ((ick p0 10 (f_X9_hears z p0 p1 v4 q42.2)).bind fun q55 =>
          if q55.1 = 0 then ((astI x44 p3 ((x39 - q42.1) - x43) q55.2).bind fun g59 =>
            rec (v4 + 1) g59)
          else ((getR p0 10 22 q55.2).bind fun x56 =>
            (aldI x56 p3 q55.2).bind fun x57 =>
            (astI x44 p3 x57 q55.2).bind fun g58 =>
            rec (v4 + 1) g58)))
      else ((getR p0 10 22 q42.2).bind fun x47 =>
        (aldI x47 p3 q42.2).bind fun x48 =>
        (astI x44 p3 x48 q42.2).bind fun g49 =>
        rec (v4 + 1) g49)))
noncomputable def f_X9_setHeap_162_L (z : Nat) (p3 : Int32) (p2 : Int32) (p0 : Option Nm) (p1 : Int32) : Nat → Int32 → Hp → Option (Int32 × Hp)
  | 0, _, _ => none
  | n + 1, v4, g => f_X9_setHeap_162_b z p3 p2 p0 p1 (f_X9_setHeap_162_L z p3 p2 p0 p1 n) v4 g
noncomputable def f_X9_setHeap_4_b (z : Nat) (p0 : Option Nm) (p1 : Int32) (rec : Int32 → Int32 → Hp → Option (Int32 × Int32 × Hp)) (v3 : Int32) (v2 : Int32) (g : Hp) : Option (Int32 × Int32 × Hp) :=
  if 144 ≤ v3 then (some (v3, v2, g))
  else ((getR p0 10 22 g).bind fun x1 =>
    (astI x1 v3 (-1000000000) g).bind fun g2 =>
    (getR p0 10 23 g2).bind fun x3 =>
    (astI x3 v3 1000000000 g2).bind fun g4 =>
    (f_X9_setHeap_30_L z v3 v2 p0 p1 z 0 g4).bind fun q33 =>
    (f_X9_setHeap_162_L z v3 v2 p0 p1 z 0 q33.2).bind fun q60 =>
    (getR p0 10 22 q60.2).bind fun x61 =>
    (aldI x61 v3 q60.2).bind fun x62 =>
    (getR p0 10 23 q60.2).bind fun x63 =>
    (aldI x63 v3 q60.2).bind fun x64 =>
    ((if x64 < x62 then (some (0))
      else (some (1))) : Option (Int32)).bind fun q65 =>
    rec (v3 + 1) (v2 + q65) q60.2)
noncomputable def f_X9_setHeap_4_L (z : Nat) (p0 : Option Nm) (p1 : Int32) : Nat → Int32 → Int32 → Hp → Option (Int32 × Int32 × Hp)
  | 0, _, _, _ => none
  | n + 1, v3, v2, g => f_X9_setHeap_4_b z p0 p1 (f_X9_setHeap_4_L z p0 p1 n) v3 v2 g
noncomputable def f_X9_setHeap (z : Nat) (t : Option Nm) (a0 : Int32) (g : Hp) : Option (Int32 × Hp) :=
  (f_X9_setHeap_4_L z t a0 z 0 0 g).bind fun q66 =>
  some (q66.2.1, q66.2.2)
set_option maxRecDepth 20000 in
theorem b_X9_setHeap_30 {X : Xt Int32} (hX : IsM rtI X) (z : Nat) (p3 : Int32) (p2 : Int32) (p0 : Option Nm) (p1 : Int32) (rec : Int32 → Hp → Option (Int32 × Hp)) (K : Int32 × Hp → Option (Int32 × Hp)) (he : ∀ (v4 : Int32) (g : Hp), J yX9_setHeap cX9_setHeap 6 (some .int) 1 26 X g 159 [(4, sI v4), (3, sI p3), (2, sI p2), (0, sR p0), (1, sI p1)] [] (K (v4, g))) (hr : ∀ (v4 : Int32) (g : Hp), J yX9_setHeap cX9_setHeap 6 (some .int) 1 26 X g 30 [(4, sI v4), (3, sI p3), (2, sI p2), (0, sR p0), (1, sI p1)] [] ((rec v4 g).bind K)) (v4 : Int32) (g : Hp) : J yX9_setHeap cX9_setHeap 6 (some .int) 1 26 X g 30 [(4, sI v4), (3, sI p3), (2, sI p2), (0, sR p0), (1, sI p1)] [] ((f_X9_setHeap_30_b z p3 p2 p0 p1 rec v4 g).bind K) := by
  unfold f_X9_setHeap_30_b
  refine j_iload (pc := 30) 0 dX9_setHeap_30 rfl ?_
  refine j_aload_n (pc := 32) 3 dX9_setHeap_32 rfl rfl ?_
  refine j_getI (pc := 33) (own := RX9) dX9_setHeap_33 lf_X9_76 rfl bb (fun x5 => ?_)
  refine j_icmp_ge (pc := 36) (tgt := 159) dX9_setHeap_36 (by decide) bi (fun hc => ?_) (fun hc => ?_)
  · exact he v4 g
  · refine j_aload_n (pc := 39) 3 dX9_setHeap_39 rfl rfl ?_
    refine j_getR (pc := 40) (own := RX9) dX9_setHeap_40 lf_X9_51 rfl bb (fun x6 => ?_)
    refine j_iload (pc := 43) 0 dX9_setHeap_43 rfl ?_
    refine j_aldI (pc := 45) dX9_setHeap_45 bb (fun x7 => ?_)
    refine j_iload_n (pc := 46) 4 dX9_setHeap_46 rfl rfl ?_
    refine j_icmp_ne (pc := 47) (tgt := 153) dX9_setHeap_47 (by decide) bi (fun hc => ?_) (fun hc => ?_)
    · refine j_iinc (pc := 153) (v := (v4 + 1)) (lv' := [(4, sI (v4 + 1)), (3, sI p3), (2, sI p2), (0, sR p0), (1, sI p1)]) 0 dX9_setHeap_153 rfl rfl (by decide) rfl ?_
      refine j_goto (pc := 156) (tgt := 30) dX9_setHeap_156 (by decide) ?_
      exact hr (v4 + 1) g
    · refine j_aload_n (pc := 50) 3 dX9_setHeap_50 rfl rfl ?_
      refine j_getR (pc := 51) (own := RX9) dX9_setHeap_51 lf_X9_45 rfl bb (fun x8 => ?_)
      refine j_iload (pc := 54) 0 dX9_setHeap_54 rfl ?_
      refine j_aldI (pc := 56) dX9_setHeap_56 bb (fun x9 => ?_)
      refine j_aload_n (pc := 57) 3 dX9_setHeap_57 rfl rfl ?_
      refine j_iload_n (pc := 58) 1 dX9_setHeap_58 rfl rfl ?_
      refine j_aload_n (pc := 59) 3 dX9_setHeap_59 rfl rfl ?_
      refine j_getR (pc := 60) (own := RX9) dX9_setHeap_60 lf_X9_20 rfl bb (fun x10 => ?_)
      refine j_aload_n (pc := 63) 3 dX9_setHeap_63 rfl rfl ?_
      refine j_getR (pc := 64) (own := RX9) dX9_setHeap_64 lf_X9_42 rfl bb (fun x11 => ?_)
      refine j_iload (pc := 67) 0 dX9_setHeap_67 rfl ?_
      refine j_aldI (pc := 69) dX9_setHeap_69 bb (fun x12 => ?_)
      refine j_aldI (pc := 70) dX9_setHeap_70 bb (fun x13 => ?_)
      refine j_callV (pc := 71) (own := RX9) [sI p3, sI x13] [sI x9] dX9_setHeap_71 lc_X9_92 lv_X9_travels rfl (m_X9_travels z p0 p3 x13 g) ⟨⟨Nat.le_of_ble_eq_true rfl, Nat.le_of_ble_eq_true rfl⟩, Nat.le_of_ble_eq_true rfl⟩ rfl bb (fun q14r q14g => ?_)
      refine j_isub (pc := 74) dX9_setHeap_74 ?_
      refine j_istore (pc := 75) (lv' := [(5, sI (x9 - q14r)), (4, sI v4), (3, sI p3), (2, sI p2), (0, sR p0), (1, sI p1)]) dX9_setHeap_75 (by decide) rfl ?_
      refine j_aload_n (pc := 77) 4 dX9_setHeap_77 rfl rfl ?_
      refine j_getR (pc := 78) (own := RX9) dX9_setHeap_78 lf_X9_57 rfl bb (fun x15 => ?_)
      refine j_iload_n (pc := 81) 2 dX9_setHeap_81 rfl rfl ?_
      refine j_iload (pc := 82) 0 dX9_setHeap_82 rfl ?_
      refine j_aload_n (pc := 84) 4 dX9_setHeap_84 rfl rfl ?_
      refine j_getI (pc := 85) (own := RX9) dX9_setHeap_85 lf_X9_17 rfl bb (fun x16 => ?_)
      refine j_isub (pc := 88) dX9_setHeap_88 ?_
      refine j_aload_n (pc := 89) 4 dX9_setHeap_89 rfl rfl ?_
      refine j_getR (pc := 90) (own := RX9) dX9_setHeap_90 lf_X9_57 rfl bb (fun x17 => ?_)
      refine j_iload_n (pc := 93) 2 dX9_setHeap_93 rfl rfl ?_
      refine j_aldI (pc := 94) dX9_setHeap_94 bb (fun x18 => ?_)
      refine J.eq bb ?_
      refine J.jn (σ := Int32) (fun q22 pr => J yX9_setHeap cX9_setHeap 6 (some .int) 1 26 X q14g 114 [(5, sI (x9 - q14r)), (4, sI v4), (3, sI p3), (2, sI p2), (0, sR p0), (1, sI p1)] [sI q22, sI p3, sR x15] pr) (fun K114 hK114 => ?_) (fun q22 => ?_)
      · refine j_icmp_le (pc := 95) (tgt := 108) dX9_setHeap_95 (by decide) bi (fun hc => ?_) (fun hc => ?_)
        · refine j_aload_n (pc := 108) 4 dX9_setHeap_108 rfl rfl ?_
          refine j_getR (pc := 109) (own := RX9) dX9_setHeap_109 lf_X9_57 rfl bb (fun x19 => ?_)
          refine j_iload_n (pc := 112) 2 dX9_setHeap_112 rfl rfl ?_
          refine j_aldI (pc := 113) dX9_setHeap_113 bb (fun x20 => ?_)
          exact hK114 (x20)
        · refine j_iload (pc := 98) 0 dX9_setHeap_98 rfl ?_
          refine j_aload_n (pc := 100) 4 dX9_setHeap_100 rfl rfl ?_
          refine j_getI (pc := 101) (own := RX9) dX9_setHeap_101 lf_X9_17 rfl bb (fun x21 => ?_)
          refine j_isub (pc := 104) dX9_setHeap_104 ?_
          refine j_goto (pc := 105) (tgt := 114) dX9_setHeap_105 (by decide) ?_
          exact hK114 (((x9 - q14r) - x21))
      · refine j_astI (pc := 114) dX9_setHeap_114 bb (fun g23 => ?_)
        refine j_aload_n (pc := 115) 4 dX9_setHeap_115 rfl rfl ?_
        refine j_getR (pc := 116) (own := RX9) dX9_setHeap_116 lf_X9_60 rfl bb (fun x24 => ?_)
        refine j_iload_n (pc := 119) 2 dX9_setHeap_119 rfl rfl ?_
        refine j_iload (pc := 120) 0 dX9_setHeap_120 rfl ?_
        refine j_aload_n (pc := 122) 4 dX9_setHeap_122 rfl rfl ?_
        refine j_getI (pc := 123) (own := RX9) dX9_setHeap_123 lf_X9_17 rfl bb (fun x25 => ?_)
        refine j_iadd (pc := 126) dX9_setHeap_126 ?_
        refine j_aload_n (pc := 127) 4 dX9_setHeap_127 rfl rfl ?_
        refine j_getR (pc := 128) (own := RX9) dX9_setHeap_128 lf_X9_60 rfl bb (fun x26 => ?_)
        refine j_iload_n (pc := 131) 2 dX9_setHeap_131 rfl rfl ?_
        refine j_aldI (pc := 132) dX9_setHeap_132 bb (fun x27 => ?_)
        refine j_icmp_ge (pc := 133) (tgt := 146) dX9_setHeap_133 (by decide) bi (fun hc => ?_) (fun hc => ?_)
        · refine j_aload_n (pc := 146) 4 dX9_setHeap_146 rfl rfl ?_
          refine j_getR (pc := 147) (own := RX9) dX9_setHeap_147 lf_X9_60 rfl bb (fun x28 => ?_)
          refine j_iload_n (pc := 150) 2 dX9_setHeap_150 rfl rfl ?_
          refine j_aldI (pc := 151) dX9_setHeap_151 bb (fun x29 => ?_)
          refine j_astI (pc := 152) dX9_setHeap_152 bb (fun g30 => ?_)
          refine j_iinc (pc := 153) (v := (v4 + 1)) (lv' := [(4, sI (v4 + 1)), (5, sI (x9 - q14r)), (3, sI p3), (2, sI p2), (0, sR p0), (1, sI p1)]) 1 dX9_setHeap_153 rfl rfl (by decide) rfl ?_
          refine j_goto (pc := 156) (tgt := 30) dX9_setHeap_156 (by decide) ?_
          refine J.sub [0, 2, 3, 4, 5] rfl ?_
          exact hr (v4 + 1) g30
        · refine j_iload (pc := 136) 0 dX9_setHeap_136 rfl ?_
          refine j_aload_n (pc := 138) 4 dX9_setHeap_138 rfl rfl ?_
          refine j_getI (pc := 139) (own := RX9) dX9_setHeap_139 lf_X9_17 rfl bb (fun x31 => ?_)
          refine j_iadd (pc := 142) dX9_setHeap_142 ?_
          refine j_goto (pc := 143) (tgt := 152) dX9_setHeap_143 (by decide) ?_
          refine j_astI (pc := 152) dX9_setHeap_152 bb (fun g32 => ?_)
          refine j_iinc (pc := 153) (v := (v4 + 1)) (lv' := [(4, sI (v4 + 1)), (5, sI (x9 - q14r)), (3, sI p3), (2, sI p2), (0, sR p0), (1, sI p1)]) 1 dX9_setHeap_153 rfl rfl (by decide) rfl ?_
          refine j_goto (pc := 156) (tgt := 30) dX9_setHeap_156 (by decide) ?_
          refine J.sub [0, 2, 3, 4, 5] rfl ?_
          exact hr (v4 + 1) g32
set_option maxRecDepth 20000 in
theorem l_X9_setHeap_30 {X : Xt Int32} (hX : IsM rtI X) (z : Nat) (p3 : Int32) (p2 : Int32) (p0 : Option Nm) (p1 : Int32) (K : Int32 × Hp → Option (Int32 × Hp)) (he : ∀ (v4 : Int32) (g : Hp), J yX9_setHeap cX9_setHeap 6 (some .int) 1 26 X g 159 [(4, sI v4), (3, sI p3), (2, sI p2), (0, sR p0), (1, sI p1)] [] (K (v4, g))) : ∀ (n : Nat) (v4 : Int32) (g : Hp), J yX9_setHeap cX9_setHeap 6 (some .int) 1 26 X g 30 [(4, sI v4), (3, sI p3), (2, sI p2), (0, sR p0), (1, sI p1)] [] ((f_X9_setHeap_30_L z p3 p2 p0 p1 n v4 g).bind K)
  | 0, _, _ => J.eq rfl J.none
  | n + 1, v4, g => b_X9_setHeap_30 hX z p3 p2 p0 p1 _ K he (fun v4 g => l_X9_setHeap_30 hX z p3 p2 p0 p1 K he n v4 g) v4 g
set_option maxRecDepth 20000 in
theorem b_X9_setHeap_162 {X : Xt Int32} (hX : IsM rtI X) (z : Nat) (p3 : Int32) (p2 : Int32) (p0 : Option Nm) (p1 : Int32) (rec : Int32 → Hp → Option (Int32 × Hp)) (K : Int32 × Hp → Option (Int32 × Hp)) (he : ∀ (v4 : Int32) (g : Hp), J yX9_setHeap cX9_setHeap 6 (some .int) 1 26 X g 264 [(4, sI v4), (3, sI p3), (2, sI p2), (0, sR p0), (1, sI p1)] [] (K (v4, g))) (hr : ∀ (v4 : Int32) (g : Hp), J yX9_setHeap cX9_setHeap 6 (some .int) 1 26 X g 162 [(4, sI v4), (3, sI p3), (2, sI p2), (0, sR p0), (1, sI p1)] [] ((rec v4 g).bind K)) (v4 : Int32) (g : Hp) : J yX9_setHeap cX9_setHeap 6 (some .int) 1 26 X g 162 [(4, sI v4), (3, sI p3), (2, sI p2), (0, sR p0), (1, sI p1)] [] ((f_X9_setHeap_162_b z p3 p2 p0 p1 rec v4 g).bind K) := by
  unfold f_X9_setHeap_162_b
  refine j_iload (pc := 162) 0 dX9_setHeap_162 rfl ?_
  refine j_aload_n (pc := 164) 3 dX9_setHeap_164 rfl rfl ?_
  refine j_getI (pc := 165) (own := RX9) dX9_setHeap_165 lf_X9_83 rfl bb (fun x34 => ?_)
  refine j_icmp_ge (pc := 168) (tgt := 264) dX9_setHeap_168 (by decide) bi (fun hc => ?_) (fun hc => ?_)
  · exact he v4 g
  · refine j_aload_n (pc := 171) 3 dX9_setHeap_171 rfl rfl ?_
    refine j_getR (pc := 172) (own := RX9) dX9_setHeap_172 lf_X9_57 rfl bb (fun x35 => ?_)
    refine j_iload_n (pc := 175) 1 dX9_setHeap_175 rfl rfl ?_
    refine j_aldI (pc := 176) dX9_setHeap_176 bb (fun x36 => ?_)
    refine j_aload_n (pc := 177) 3 dX9_setHeap_177 rfl rfl ?_
    refine j_getR (pc := 178) (own := RX9) dX9_setHeap_178 lf_X9_60 rfl bb (fun x37 => ?_)
    refine j_iload_n (pc := 181) 1 dX9_setHeap_181 rfl rfl ?_
    refine j_aldI (pc := 182) dX9_setHeap_182 bb (fun x38 => ?_)
    refine j_icmp_gt (pc := 183) (tgt := 264) dX9_setHeap_183 (by decide) bi (fun hc => ?_) (fun hc => ?_)
    · exact he v4 g
    · refine j_aload_n (pc := 186) 3 dX9_setHeap_186 rfl rfl ?_
      refine j_getI (pc := 187) (own := RX9) dX9_setHeap_187 lf_X9_97 rfl bb (fun x39 => ?_)
      refine j_aload_n (pc := 190) 3 dX9_setHeap_190 rfl rfl ?_
      refine j_iload_n (pc := 191) 1 dX9_setHeap_191 rfl rfl ?_
      refine j_aload_n (pc := 192) 3 dX9_setHeap_192 rfl rfl ?_
      refine j_getR (pc := 193) (own := RX9) dX9_setHeap_193 lf_X9_20 rfl bb (fun x40 => ?_)
      refine j_iload (pc := 196) 0 dX9_setHeap_196 rfl ?_
      refine j_aldI (pc := 198) dX9_setHeap_198 bb (fun x41 => ?_)
      refine j_callV (pc := 199) (own := RX9) [sI p3, sI x41] [sI x39] dX9_setHeap_199 lc_X9_92 lv_X9_travels rfl (m_X9_travels z p0 p3 x41 g) ⟨⟨Nat.le_of_ble_eq_true rfl, Nat.le_of_ble_eq_true rfl⟩, Nat.le_of_ble_eq_true rfl⟩ rfl bb (fun q42r q42g => ?_)
      refine j_isub (pc := 202) dX9_setHeap_202 ?_
      refine j_aload_n (pc := 203) 3 dX9_setHeap_203 rfl rfl ?_
      refine j_getI (pc := 204) (own := RX9) dX9_setHeap_204 lf_X9_17 rfl bb (fun x43 => ?_)
      refine j_isub (pc := 207) dX9_setHeap_207 ?_
      refine j_istore (pc := 208) (lv' := [(5, sI ((x39 - q42r) - x43)), (4, sI v4), (3, sI p3), (2, sI p2), (0, sR p0), (1, sI p1)]) dX9_setHeap_208 (by decide) rfl ?_
      refine j_aload_n (pc := 210) 4 dX9_setHeap_210 rfl rfl ?_
      refine j_getR (pc := 211) (own := RX9) dX9_setHeap_211 lf_X9_57 rfl bb (fun x44 => ?_)
      refine j_iload_n (pc := 214) 2 dX9_setHeap_214 rfl rfl ?_
      refine j_aload_n (pc := 215) 4 dX9_setHeap_215 rfl rfl ?_
      refine j_getR (pc := 216) (own := RX9) dX9_setHeap_216 lf_X9_23 rfl bb (fun x45 => ?_)
      refine j_iload (pc := 219) 1 dX9_setHeap_219 rfl ?_
      refine j_aldZ (pc := 221) dX9_setHeap_221 bb (fun x46 => ?_)
      refine j_if_ne (pc := 222) (tgt := 251) dX9_setHeap_222 (by decide) bi (fun hc => ?_) (fun hc => ?_)
      · refine j_aload_n (pc := 251) 4 dX9_setHeap_251 rfl rfl ?_
        refine j_getR (pc := 252) (own := RX9) dX9_setHeap_252 lf_X9_57 rfl bb (fun x47 => ?_)
        refine j_iload_n (pc := 255) 2 dX9_setHeap_255 rfl rfl ?_
        refine j_aldI (pc := 256) dX9_setHeap_256 bb (fun x48 => ?_)
        refine j_astI (pc := 257) dX9_setHeap_257 bb (fun g49 => ?_)
        refine j_iinc (pc := 258) (v := (v4 + 1)) (lv' := [(4, sI (v4 + 1)), (5, sI ((x39 - q42r) - x43)), (3, sI p3), (2, sI p2), (0, sR p0), (1, sI p1)]) 1 dX9_setHeap_258 rfl rfl (by decide) rfl ?_
        refine j_goto (pc := 261) (tgt := 162) dX9_setHeap_261 (by decide) ?_
        refine J.sub [0, 2, 3, 4, 5] rfl ?_
        exact hr (v4 + 1) g49
      · refine j_iload (pc := 225) 0 dX9_setHeap_225 rfl ?_
        refine j_aload_n (pc := 227) 4 dX9_setHeap_227 rfl rfl ?_
        refine j_getR (pc := 228) (own := RX9) dX9_setHeap_228 lf_X9_57 rfl bb (fun x50 => ?_)
        refine j_iload_n (pc := 231) 2 dX9_setHeap_231 rfl rfl ?_
        refine j_aldI (pc := 232) dX9_setHeap_232 bb (fun x51 => ?_)
        refine j_icmp_le (pc := 233) (tgt := 251) dX9_setHeap_233 (by decide) bi (fun hc => ?_) (fun hc => ?_)
        · refine j_aload_n (pc := 251) 4 dX9_setHeap_251 rfl rfl ?_
          refine j_getR (pc := 252) (own := RX9) dX9_setHeap_252 lf_X9_57 rfl bb (fun x52 => ?_)
          refine j_iload_n (pc := 255) 2 dX9_setHeap_255 rfl rfl ?_
          refine j_aldI (pc := 256) dX9_setHeap_256 bb (fun x53 => ?_)
          refine j_astI (pc := 257) dX9_setHeap_257 bb (fun g54 => ?_)
          refine j_iinc (pc := 258) (v := (v4 + 1)) (lv' := [(4, sI (v4 + 1)), (5, sI ((x39 - q42r) - x43)), (3, sI p3), (2, sI p2), (0, sR p0), (1, sI p1)]) 1 dX9_setHeap_258 rfl rfl (by decide) rfl ?_
          refine j_goto (pc := 261) (tgt := 162) dX9_setHeap_261 (by decide) ?_
          refine J.sub [0, 2, 3, 4, 5] rfl ?_
          exact hr (v4 + 1) g54
        · refine j_aload_n (pc := 236) 4 dX9_setHeap_236 rfl rfl ?_
          refine j_iload_n (pc := 237) 5 dX9_setHeap_237 rfl rfl ?_
          refine j_iload (pc := 238) 1 dX9_setHeap_238 rfl ?_
          refine j_callV (pc := 240) (own := RX9) [sI p1, sI v4] [sI p3, sR x44] dX9_setHeap_240 lc_X9_114 lv_X9_hears rfl (m_X9_hears z p0 p1 v4 q42g) ⟨⟨Nat.le_of_ble_eq_true rfl, Nat.le_of_ble_eq_true rfl⟩, Nat.le_of_ble_eq_true rfl⟩ rfl bb (fun q55r q55g => ?_)
          refine j_if_ne (pc := 243) (tgt := 251) dX9_setHeap_243 (by decide) bi (fun hc => ?_) (fun hc => ?_)
          · refine j_aload_n (pc := 251) 4 dX9_setHeap_251 rfl rfl ?_
            refine j_getR (pc := 252) (own := RX9) dX9_setHeap_252 lf_X9_57 rfl bb (fun x56 => ?_)
            refine j_iload_n (pc := 255) 2 dX9_setHeap_255 rfl rfl ?_
            refine j_aldI (pc := 256) dX9_setHeap_256 bb (fun x57 => ?_)
            refine j_astI (pc := 257) dX9_setHeap_257 bb (fun g58 => ?_)
            refine j_iinc (pc := 258) (v := (v4 + 1)) (lv' := [(4, sI (v4 + 1)), (5, sI ((x39 - q42r) - x43)), (3, sI p3), (2, sI p2), (0, sR p0), (1, sI p1)]) 1 dX9_setHeap_258 rfl rfl (by decide) rfl ?_
            refine j_goto (pc := 261) (tgt := 162) dX9_setHeap_261 (by decide) ?_
            refine J.sub [0, 2, 3, 4, 5] rfl ?_
            exact hr (v4 + 1) g58
          · refine j_iload (pc := 246) 0 dX9_setHeap_246 rfl ?_
            refine j_goto (pc := 248) (tgt := 257) dX9_setHeap_248 (by decide) ?_
            refine j_astI (pc := 257) dX9_setHeap_257 bb (fun g59 => ?_)
            refine j_iinc (pc := 258) (v := (v4 + 1)) (lv' := [(4, sI (v4 + 1)), (5, sI ((x39 - q42r) - x43)), (3, sI p3), (2, sI p2), (0, sR p0), (1, sI p1)]) 1 dX9_setHeap_258 rfl rfl (by decide) rfl ?_
            refine j_goto (pc := 261) (tgt := 162) dX9_setHeap_261 (by decide) ?_
            refine J.sub [0, 2, 3, 4, 5] rfl ?_
            exact hr (v4 + 1) g59
set_option maxRecDepth 20000 in
theorem l_X9_setHeap_162 {X : Xt Int32} (hX : IsM rtI X) (z : Nat) (p3 : Int32) (p2 : Int32) (p0 : Option Nm) (p1 : Int32) (K : Int32 × Hp → Option (Int32 × Hp)) (he : ∀ (v4 : Int32) (g : Hp), J yX9_setHeap cX9_setHeap 6 (some .int) 1 26 X g 264 [(4, sI v4), (3, sI p3), (2, sI p2), (0, sR p0), (1, sI p1)] [] (K (v4, g))) : ∀ (n : Nat) (v4 : Int32) (g : Hp), J yX9_setHeap cX9_setHeap 6 (some .int) 1 26 X g 162 [(4, sI v4), (3, sI p3), (2, sI p2), (0, sR p0), (1, sI p1)] [] ((f_X9_setHeap_162_L z p3 p2 p0 p1 n v4 g).bind K)
  | 0, _, _ => J.eq rfl J.none
  | n + 1, v4, g => b_X9_setHeap_162 hX z p3 p2 p0 p1 _ K he (fun v4 g => l_X9_setHeap_162 hX z p3 p2 p0 p1 K he n v4 g) v4 g
set_option maxRecDepth 20000 in
theorem b_X9_setHeap_4 {X : Xt Int32} (hX : IsM rtI X) (z : Nat) (p0 : Option Nm) (p1 : Int32) (rec : Int32 → Int32 → Hp → Option (Int32 × Int32 × Hp)) (K : Int32 × Int32 × Hp → Option (Int32 × Hp)) (he : ∀ (v3 : Int32) (v2 : Int32) (g : Hp), J yX9_setHeap cX9_setHeap 6 (some .int) 1 26 X g 293 [(3, sI v3), (2, sI v2), (0, sR p0), (1, sI p1)] [] (K (v3, v2, g))) (hr : ∀ (v3 : Int32) (v2 : Int32) (g : Hp), J yX9_setHeap cX9_setHeap 6 (some .int) 1 26 X g 4 [(3, sI v3), (2, sI v2), (0, sR p0), (1, sI p1)] [] ((rec v3 v2 g).bind K)) (v3 : Int32) (v2 : Int32) (g : Hp) : J yX9_setHeap cX9_setHeap 6 (some .int) 1 26 X g 4 [(3, sI v3), (2, sI v2), (0, sR p0), (1, sI p1)] [] ((f_X9_setHeap_4_b z p0 p1 rec v3 v2 g).bind K) := by
  unfold f_X9_setHeap_4_b
  refine j_iload_n (pc := 4) 0 dX9_setHeap_4 rfl rfl ?_
  refine j_sipush (pc := 5) (v := 144) dX9_setHeap_5 (by decide) ?_
  refine j_icmp_ge (pc := 8) (tgt := 293) dX9_setHeap_8 (by decide) bi (fun hc => ?_) (fun hc => ?_)
  · exact he v3 v2 g
  · refine j_aload_n (pc := 11) 2 dX9_setHeap_11 rfl rfl ?_
    refine j_getR (pc := 12) (own := RX9) dX9_setHeap_12 lf_X9_57 rfl bb (fun x1 => ?_)
    refine j_iload_n (pc := 15) 0 dX9_setHeap_15 rfl rfl ?_
    refine j_ldc (pc := 16) (own := RX9) (v := (-1000000000)) dX9_setHeap_16 rfl lk_X9_112 ?_
    refine j_astI (pc := 18) dX9_setHeap_18 bb (fun g2 => ?_)
    refine j_aload_n (pc := 19) 2 dX9_setHeap_19 rfl rfl ?_
    refine j_getR (pc := 20) (own := RX9) dX9_setHeap_20 lf_X9_60 rfl bb (fun x3 => ?_)
    refine j_iload_n (pc := 23) 0 dX9_setHeap_23 rfl rfl ?_
    refine j_ldc (pc := 24) (own := RX9) (v := 1000000000) dX9_setHeap_24 rfl lk_X9_113 ?_
    refine j_astI (pc := 26) dX9_setHeap_26 bb (fun g4 => ?_)
    refine j_iconst (pc := 27) (v := 0) dX9_setHeap_27 (by decide) ?_
    refine j_istore (pc := 28) (lv' := [(4, sI 0), (3, sI v3), (2, sI v2), (0, sR p0), (1, sI p1)]) dX9_setHeap_28 (by decide) rfl ?_
    refine J.eq bb ?_
    refine l_X9_setHeap_30 hX z v3 v2 p0 p1 _ (fun q33_0 q33_g => ?_) z 0 g4
    refine j_iconst (pc := 159) (v := 0) dX9_setHeap_159 (by decide) ?_
    refine j_istore (pc := 160) (lv' := [(4, sI 0), (3, sI v3), (2, sI v2), (0, sR p0), (1, sI p1)]) dX9_setHeap_160 (by decide) rfl ?_
    refine J.eq bb ?_
    refine l_X9_setHeap_162 hX z v3 v2 p0 p1 _ (fun q60_0 q60_g => ?_) z 0 q33_g
    refine j_iload_n (pc := 264) 2 dX9_setHeap_264 rfl rfl ?_
    refine j_aload_n (pc := 265) 3 dX9_setHeap_265 rfl rfl ?_
    refine j_getR (pc := 266) (own := RX9) dX9_setHeap_266 lf_X9_57 rfl bb (fun x61 => ?_)
    refine j_iload_n (pc := 269) 1 dX9_setHeap_269 rfl rfl ?_
    refine j_aldI (pc := 270) dX9_setHeap_270 bb (fun x62 => ?_)
    refine j_aload_n (pc := 271) 3 dX9_setHeap_271 rfl rfl ?_
    refine j_getR (pc := 272) (own := RX9) dX9_setHeap_272 lf_X9_60 rfl bb (fun x63 => ?_)
    refine j_iload_n (pc := 275) 1 dX9_setHeap_275 rfl rfl ?_
    refine j_aldI (pc := 276) dX9_setHeap_276 bb (fun x64 => ?_)
    refine J.eq bb ?_
    refine J.jn (σ := Int32) (fun q65 pr => J yX9_setHeap cX9_setHeap 6 (some .int) 1 26 X q60_g 285 [(4, sI q60_0), (3, sI v3), (2, sI v2), (0, sR p0), (1, sI p1)] [sI q65, sI v2] pr) (fun K285 hK285 => ?_) (fun q65 => ?_)
    · refine j_icmp_gt (pc := 277) (tgt := 284) dX9_setHeap_277 (by decide) bi (fun hc => ?_) (fun hc => ?_)
      · refine j_iconst (pc := 284) (v := 0) dX9_setHeap_284 (by decide) ?_
        exact hK285 (0)
      · refine j_iconst (pc := 280) (v := 1) dX9_setHeap_280 (by decide) ?_
        refine j_goto (pc := 281) (tgt := 285) dX9_setHeap_281 (by decide) ?_
        exact hK285 (1)
    · refine j_iadd (pc := 285) dX9_setHeap_285 ?_
      refine j_istore_n (pc := 286) (lv' := [(2, sI (v2 + q65)), (4, sI q60_0), (3, sI v3), (0, sR p0), (1, sI p1)]) dX9_setHeap_286 rfl (by decide) rfl ?_
      refine j_iinc (pc := 287) (v := (v3 + 1)) (lv' := [(3, sI (v3 + 1)), (2, sI (v2 + q65)), (4, sI q60_0), (0, sR p0), (1, sI p1)]) 2 dX9_setHeap_287 rfl rfl (by decide) rfl ?_
      refine j_goto (pc := 290) (tgt := 4) dX9_setHeap_290 (by decide) ?_
      refine J.sub [0, 1, 3, 4] rfl ?_
      exact hr (v3 + 1) (v2 + q65) q60_g
set_option maxRecDepth 20000 in
theorem l_X9_setHeap_4 {X : Xt Int32} (hX : IsM rtI X) (z : Nat) (p0 : Option Nm) (p1 : Int32) (K : Int32 × Int32 × Hp → Option (Int32 × Hp)) (he : ∀ (v3 : Int32) (v2 : Int32) (g : Hp), J yX9_setHeap cX9_setHeap 6 (some .int) 1 26 X g 293 [(3, sI v3), (2, sI v2), (0, sR p0), (1, sI p1)] [] (K (v3, v2, g))) : ∀ (n : Nat) (v3 : Int32) (v2 : Int32) (g : Hp), J yX9_setHeap cX9_setHeap 6 (some .int) 1 26 X g 4 [(3, sI v3), (2, sI v2), (0, sR p0), (1, sI p1)] [] ((f_X9_setHeap_4_L z p0 p1 n v3 v2 g).bind K)
  | 0, _, _, _ => J.eq rfl J.none
  | n + 1, v3, v2, g => b_X9_setHeap_4 hX z p0 p1 _ K he (fun v3 v2 g => l_X9_setHeap_4 hX z p0 p1 K he n v3 v2 g) v3 v2 g
set_option maxRecDepth 20000 in
theorem m_X9_setHeap (z : Nat) (t : Option Nm) (a0 : Int32) (g : Hp) : FM yX9_setHeap cX9_setHeap 6 (some .int) 1 26 rtI [sR t, sI a0] g (f_X9_setHeap z t a0 g) := by
  refine FM.entry (by decide +kernel) (Nat.le_of_ble_eq_true rfl) (fun X hX => ?_)
  unfold f_X9_setHeap
  show J yX9_setHeap cX9_setHeap 6 (some .int) 1 26 X g 0 [(0, sR t), (1, sI a0)] [] _
  refine j_iconst (pc := 0) (v := 0) dX9_setHeap_0 (by decide) ?_
  refine j_istore_n (pc := 1) (lv' := [(2, sI 0), (0, sR t), (1, sI a0)]) dX9_setHeap_1 rfl (by decide) rfl ?_
  refine j_iconst (pc := 2) (v := 0) dX9_setHeap_2 (by decide) ?_
  refine j_istore_n (pc := 3) (lv' := [(3, sI 0), (2, sI 0), (0, sR t), (1, sI a0)]) dX9_setHeap_3 rfl (by decide) rfl ?_
  refine l_X9_setHeap_4 hX z t a0 _ (fun q66_0 q66_1 q66_g => ?_) z 0 0 g
  refine j_iload_n (pc := 293) 1 dX9_setHeap_293 rfl rfl ?_
  exact j_ireturn dX9_setHeap_294 hX rfl rfl
/-! X9_has -/
noncomputable def f_X9_has (z : Nat) (t : Option Nm) (a0 : Int32) (g : Hp) : Option (Int32 × Hp) :=
  (getR t 10 22 g).bind fun x1 =>
  (aldI x1 a0 g).bind fun x2 =>
  (getR t 10 23 g).bind fun x3 =>
  (aldI x3 a0 g).bind fun x4 =>
  if x4 < x2 then (rtZ 0 g)
  else (rtZ 1 g)
set_option maxRecDepth 20000 in
theorem m_X9_has (z : Nat) (t : Option Nm) (a0 : Int32) (g : Hp) : FM yX9_has cX9_has 2 (some .boolean) 0 0 rtI [sR t, sI a0] g (f_X9_has z t a0 g) := by
  refine FM.entry (by decide +kernel) (Nat.le_of_ble_eq_true rfl) (fun X hX => ?_)
  unfold f_X9_has
  show J yX9_has cX9_has 2 (some .boolean) 0 0 X g 0 [(0, sR t), (1, sI a0)] [] _
  refine j_aload_n (pc := 0) 0 dX9_has_0 rfl rfl ?_
  refine j_getR (pc := 1) (own := RX9) dX9_has_1 lf_X9_57 rfl rfl (fun x1 => ?_)
  refine j_iload_n (pc := 4) 1 dX9_has_4 rfl rfl ?_
  refine j_aldI (pc := 5) dX9_has_5 rfl (fun x2 => ?_)
  refine j_aload_n (pc := 6) 0 dX9_has_6 rfl rfl ?_
  refine j_getR (pc := 7) (own := RX9) dX9_has_7 lf_X9_60 rfl rfl (fun x3 => ?_)
  refine j_iload_n (pc := 10) 1 dX9_has_10 rfl rfl ?_
  refine j_aldI (pc := 11) dX9_has_11 rfl (fun x4 => ?_)
  refine j_icmp_gt (pc := 12) (tgt := 19) dX9_has_12 (by decide) rfl (fun hc => ?_) (fun hc => ?_)
  · refine j_iconst (pc := 19) (v := 0) dX9_has_19 (by decide) ?_
    exact j_zreturn dX9_has_20 hX rfl rfl
  · refine j_iconst (pc := 15) (v := 1) dX9_has_15 (by decide) ?_
    refine j_goto (pc := 16) (tgt := 20) dX9_has_16 (by decide) ?_
    exact j_zreturn dX9_has_20 hX rfl rfl
/-! X9_pick -/
noncomputable def f_X9_pick_51_b (z : Nat) (p0 : Option Nm) (p1 : Int32) (p2 : Int32) (p3 : Int32) (rec : Int32 → Int32 → Hp → Option (Int32 × Int32 × Hp)) (v5 : Int32) (v4 : Int32) (g : Hp) : Option (Int32 × Int32 × Hp) :=
  (getI p0 10 20 g).bind fun x6 =>
  if x6 ≤ v5 then (some (v5, v4, g))
  else (if 0 ≤ v4 then (some (v5, v4, g))
    else ((ick p0 10 (f_X9_hears z p0 v5 p1 g)).bind fun q7 =>
      ((if q7.1 = 0 then ((ick p0 10 (f_X9_setHeap z p0 v5 q7.2)).bind fun q8 =>
          if q8.1 ≤ 0 then (some (0, q8.2))
          else (some (1, q8.2)))
        else (some (0, q7.2))) : Option (Int32 × Hp)).bind fun q9 =>
      (getR p0 10 16 q9.2).bind fun x10 =>
      (getI p0 10 15 q9.2).bind fun x11 =>
      (astI x10 x11 p1 q9.2).bind fun g12 =>
      (getR p0 10 17 g12).bind fun x13 =>
      (getI p0 10 15 g12).bind fun x14 =>
      (astI x13 x14 p2 g12).bind fun g15 =>
      (getR p0 10 19 g15).bind fun x16 =>
      (getI p0 10 15 g15).bind fun x17 =>
      (astI x16 x17 v5 g15).bind fun g18 =>
      (getI p0 10 15 g18).bind fun x19 =>
      (putI p0 10 15 (x19 + 1) g18).bind fun g20 =>
      ((if q9.1 = 0 then (some ((-9), g20))
        else ((ick p0 10 (f_X9_setHeap z p0 v5 g20)).bind fun q21 =>
          if q21.1 ≤ 0 then (some ((-9), q21.2))
          else (some (v5, q21.2)))) : Option (Int32 × Hp)).bind fun q22 =>
      (getI p0 10 15 q22.2).bind fun x23 =>
      (putI p0 10 15 (x23 - 1) q22.2).bind fun g24 =>
      rec (v5 + 1) q22.1 g24))
noncomputable def f_X9_pick_51_L (z : Nat) (p0 : Option Nm) (p1 : Int32) (p2 : Int32) (p3 : Int32) : Nat → Int32 → Int32 → Hp → Option (Int32 × Int32 × Hp)
  | 0, _, _, _ => none
  | n + 1, v5, v4, g => f_X9_pick_51_b z p0 p1 p2 p3 (f_X9_pick_51_L z p0 p1 p2 p3 n) v5 v4 g
noncomputable def f_X9_pick (z : Nat) (t : Option Nm) (a0 : Int32) (a1 : Int32) (a2 : Int32) (g : Hp) : Option (Int32 × Hp) :=
  (ick t 10 (f_X9_isStation z t a0 g)).bind fun q1 =>
  if q1.1 = 0 then (some ((-1), q1.2))
  else ((getI t 10 5 q1.2).bind fun x2 =>
    (f_X9_in z a1 0 x2 q1.2).bind fun q3 =>
    if q3.1 = 0 then (some ((-1), q3.2))
    else ((f_X9_in z a2 1 1000000 q3.2).bind fun q4 =>
      if q4.1 = 0 then (some ((-1), q4.2))
      else ((getI t 10 15 q4.2).bind fun x5 =>
        if x5 = 60 then (some ((-2), q4.2))
        else ((f_X9_pick_51_L z t a0 a1 a2 z 0 (-9) q4.2).bind fun q25 =>
          ((if 0 ≤ q25.2.1 then (some (q25.2.1, q25.2.1, q25.2.2))
            else ((getI t 10 20 q25.2.2).bind fun x26 =>
              if 5 ≤ x26 then (some (q25.2.1, q25.2.1, q25.2.2))
              else ((getI t 10 20 q25.2.2).bind fun x27 =>
                (getR t 10 21 q25.2.2).bind fun x28 =>
                (getI t 10 15 q25.2.2).bind fun x29 =>
                (astI x28 x27 x29 q25.2.2).bind fun g30 =>
                (getI t 10 20 g30).bind fun x31 =>
                (putI t 10 20 (x31 + 1) g30).bind fun g32 =>
                some ((10 + x27), x27, g32)))) : Option (Int32 × Int32 × Hp)).bind fun q33 =>
          (getR t 10 16 q33.2.2).bind fun x34 =>
          (getI t 10 15 q33.2.2).bind fun x35 =>
          (astI x34 x35 a0 q33.2.2).bind fun g36 =>
          (getR t 10 17 g36).bind fun x37 =>
          (getI t 10 15 g36).bind fun x38 =>
          (astI x37 x38 a1 g36).bind fun g39 =>
          (getR t 10 18 g39).bind fun x40 =>
          (getI t 10 15 g39).bind fun x41 =>
          (astI x40 x41 a2 g39).bind fun g42 =>
          (getR t 10 19 g42).bind fun x43 =>
          (getI t 10 15 g42).bind fun x44 =>
          (astI x43 x44 q33.2.1 g42).bind fun g45 =>
          (getI t 10 15 g45).bind fun x46 =>
          (putI t 10 15 (x46 + 1) g45).bind fun g47 =>
          some (q33.1, g47)))))
set_option maxRecDepth 20000 in
theorem b_X9_pick_51 {X : Xt Int32} (hX : IsM rtI X) (z : Nat) (p0 : Option Nm) (p1 : Int32) (p2 : Int32) (p3 : Int32) (rec : Int32 → Int32 → Hp → Option (Int32 × Int32 × Hp)) (K : Int32 × Int32 × Hp → Option (Int32 × Hp)) (he : ∀ (v5 : Int32) (v4 : Int32) (g : Hp), J yX9_pick cX9_pick 7 (some .int) 2 51 X g 171 [(5, sI v5), (4, sI v4), (0, sR p0), (1, sI p1), (2, sI p2), (3, sI p3)] [] (K (v5, v4, g))) (hr : ∀ (v5 : Int32) (v4 : Int32) (g : Hp), J yX9_pick cX9_pick 7 (some .int) 2 51 X g 51 [(5, sI v5), (4, sI v4), (0, sR p0), (1, sI p1), (2, sI p2), (3, sI p3)] [] ((rec v5 v4 g).bind K)) (v5 : Int32) (v4 : Int32) (g : Hp) : J yX9_pick cX9_pick 7 (some .int) 2 51 X g 51 [(5, sI v5), (4, sI v4), (0, sR p0), (1, sI p1), (2, sI p2), (3, sI p3)] [] ((f_X9_pick_51_b z p0 p1 p2 p3 rec v5 v4 g).bind K) := by
  unfold f_X9_pick_51_b
  refine j_iload (pc := 51) 0 dX9_pick_51 rfl ?_
  refine j_aload_n (pc := 53) 2 dX9_pick_53 rfl rfl ?_
  refine j_getI (pc := 54) (own := RX9) dX9_pick_54 lf_X9_119 rfl bb (fun x6 => ?_)
  refine j_icmp_ge (pc := 57) (tgt := 171) dX9_pick_57 (by decide) bi (fun hc => ?_) (fun hc => ?_)
  · exact he v5 v4 g
  · refine j_iload (pc := 60) 1 dX9_pick_60 rfl ?_
    refine j_if_ge (pc := 62) (tgt := 171) dX9_pick_62 (by decide) bi (fun hc => ?_) (fun hc => ?_)
    · exact he v5 v4 g
    · refine j_aload_n (pc := 65) 2 dX9_pick_65 rfl rfl ?_
      refine j_iload (pc := 66) 0 dX9_pick_66 rfl ?_
      refine j_iload_n (pc := 68) 3 dX9_pick_68 rfl rfl ?_
      refine j_callV (pc := 69) (own := RX9) [sI v5, sI p1] [] dX9_pick_69 lc_X9_114 lv_X9_hears rfl (m_X9_hears z p0 v5 p1 g) ⟨⟨Nat.le_of_ble_eq_true rfl, Nat.le_of_ble_eq_true rfl⟩, Nat.le_of_ble_eq_true rfl⟩ rfl bb (fun q7r q7g => ?_)
      refine J.eq bb ?_
      refine J.jn (σ := Int32 × Hp) (fun q9 pr => J yX9_pick cX9_pick 7 (some .int) 2 51 X q9.2 89 [(5, sI v5), (4, sI v4), (0, sR p0), (1, sI p1), (2, sI p2), (3, sI p3)] [sI q9.1] pr) (fun K89 hK89 => ?_) (fun q9 => ?_)
      · refine j_if_ne (pc := 72) (tgt := 88) dX9_pick_72 (by decide) bi (fun hc => ?_) (fun hc => ?_)
        · refine j_iconst (pc := 88) (v := 0) dX9_pick_88 (by decide) ?_
          exact hK89 (0, q7g)
        · refine j_aload_n (pc := 75) 2 dX9_pick_75 rfl rfl ?_
          refine j_iload (pc := 76) 0 dX9_pick_76 rfl ?_
          refine j_callV (pc := 78) (own := RX9) [sI v5] [] dX9_pick_78 lc_X9_122 lv_X9_setHeap rfl (m_X9_setHeap z p0 v5 q7g) ⟨⟨Nat.le_of_ble_eq_true rfl, Nat.le_of_ble_eq_true rfl⟩, Nat.le_of_ble_eq_true rfl⟩ rfl bb (fun q8r q8g => ?_)
          refine j_if_le (pc := 81) (tgt := 88) dX9_pick_81 (by decide) bi (fun hc => ?_) (fun hc => ?_)
          · refine j_iconst (pc := 88) (v := 0) dX9_pick_88 (by decide) ?_
            exact hK89 (0, q8g)
          · refine j_iconst (pc := 84) (v := 1) dX9_pick_84 (by decide) ?_
            refine j_goto (pc := 85) (tgt := 89) dX9_pick_85 (by decide) ?_
            exact hK89 (1, q8g)
      · refine j_istore (pc := 89) (lv' := [(6, sI q9.1), (5, sI v5), (4, sI v4), (0, sR p0), (1, sI p1), (2, sI p2), (3, sI p3)]) dX9_pick_89 (by decide) rfl ?_
        refine j_aload_n (pc := 91) 3 dX9_pick_91 rfl rfl ?_
        refine j_getR (pc := 92) (own := RX9) dX9_pick_92 lf_X9_42 rfl bb (fun x10 => ?_)
        refine j_aload_n (pc := 95) 3 dX9_pick_95 rfl rfl ?_
        refine j_getI (pc := 96) (own := RX9) dX9_pick_96 lf_X9_76 rfl bb (fun x11 => ?_)
        refine j_iload_n (pc := 99) 4 dX9_pick_99 rfl rfl ?_
        refine j_astI (pc := 100) dX9_pick_100 bb (fun g12 => ?_)
        refine j_aload_n (pc := 101) 3 dX9_pick_101 rfl rfl ?_
        refine j_getR (pc := 102) (own := RX9) dX9_pick_102 lf_X9_45 rfl bb (fun x13 => ?_)
        refine j_aload_n (pc := 105) 3 dX9_pick_105 rfl rfl ?_
        refine j_getI (pc := 106) (own := RX9) dX9_pick_106 lf_X9_76 rfl bb (fun x14 => ?_)
        refine j_iload_n (pc := 109) 5 dX9_pick_109 rfl rfl ?_
        refine j_astI (pc := 110) dX9_pick_110 bb (fun g15 => ?_)
        refine j_aload_n (pc := 111) 3 dX9_pick_111 rfl rfl ?_
        refine j_getR (pc := 112) (own := RX9) dX9_pick_112 lf_X9_51 rfl bb (fun x16 => ?_)
        refine j_aload_n (pc := 115) 3 dX9_pick_115 rfl rfl ?_
        refine j_getI (pc := 116) (own := RX9) dX9_pick_116 lf_X9_76 rfl bb (fun x17 => ?_)
        refine j_iload (pc := 119) 1 dX9_pick_119 rfl ?_
        refine j_astI (pc := 121) dX9_pick_121 bb (fun g18 => ?_)
        refine j_aload_n (pc := 122) 3 dX9_pick_122 rfl rfl ?_
        refine j_dup (pc := 123) dX9_pick_123 rfl ?_
        refine j_getI (pc := 124) (own := RX9) dX9_pick_124 lf_X9_76 rfl bb (fun x19 => ?_)
        refine j_iconst (pc := 127) (v := 1) dX9_pick_127 (by decide) ?_
        refine j_iadd (pc := 128) dX9_pick_128 ?_
        refine j_putI (pc := 129) (own := RX9) dX9_pick_129 lf_X9_76 lt_10_15 lw_X9_76_X9_pick rfl bb (fun g20 => ?_)
        refine j_iload (pc := 132) 0 dX9_pick_132 rfl ?_
        refine J.eq bb ?_
        refine J.jn (σ := Int32 × Hp) (fun q22 pr => J yX9_pick cX9_pick 7 (some .int) 2 51 X q22.2 153 [(6, sI q9.1), (5, sI v5), (4, sI v4), (0, sR p0), (1, sI p1), (2, sI p2), (3, sI p3)] [sI q22.1] pr) (fun K153 hK153 => ?_) (fun q22 => ?_)
        · refine j_if_eq (pc := 134) (tgt := 151) dX9_pick_134 (by decide) bi (fun hc => ?_) (fun hc => ?_)
          · refine j_bipush (pc := 151) (v := (-9)) dX9_pick_151 (by decide) ?_
            exact hK153 ((-9), g20)
          · refine j_aload_n (pc := 137) 3 dX9_pick_137 rfl rfl ?_
            refine j_iload (pc := 138) 1 dX9_pick_138 rfl ?_
            refine j_callV (pc := 140) (own := RX9) [sI v5] [] dX9_pick_140 lc_X9_122 lv_X9_setHeap rfl (m_X9_setHeap z p0 v5 g20) ⟨⟨Nat.le_of_ble_eq_true rfl, Nat.le_of_ble_eq_true rfl⟩, Nat.le_of_ble_eq_true rfl⟩ rfl bb (fun q21r q21g => ?_)
            refine j_if_le (pc := 143) (tgt := 151) dX9_pick_143 (by decide) bi (fun hc => ?_) (fun hc => ?_)
            · refine j_bipush (pc := 151) (v := (-9)) dX9_pick_151 (by decide) ?_
              exact hK153 ((-9), q21g)
            · refine j_iload (pc := 146) 1 dX9_pick_146 rfl ?_
              refine j_goto (pc := 148) (tgt := 153) dX9_pick_148 (by decide) ?_
              exact hK153 (v5, q21g)
        · refine j_istore (pc := 153) (lv' := [(4, sI q22.1), (6, sI q9.1), (5, sI v5), (0, sR p0), (1, sI p1), (2, sI p2), (3, sI p3)]) dX9_pick_153 (by decide) rfl ?_
          refine j_aload_n (pc := 155) 3 dX9_pick_155 rfl rfl ?_
          refine j_dup (pc := 156) dX9_pick_156 rfl ?_
          refine j_getI (pc := 157) (own := RX9) dX9_pick_157 lf_X9_76 rfl bb (fun x23 => ?_)
          refine j_iconst (pc := 160) (v := 1) dX9_pick_160 (by decide) ?_
          refine j_isub (pc := 161) dX9_pick_161 ?_
          refine j_putI (pc := 162) (own := RX9) dX9_pick_162 lf_X9_76 lt_10_15 lw_X9_76_X9_pick rfl bb (fun g24 => ?_)
          refine j_iinc (pc := 165) (v := (v5 + 1)) (lv' := [(5, sI (v5 + 1)), (4, sI q22.1), (6, sI q9.1), (0, sR p0), (1, sI p1), (2, sI p2), (3, sI p3)]) 2 dX9_pick_165 rfl rfl (by decide) rfl ?_
          refine j_goto (pc := 168) (tgt := 51) dX9_pick_168 (by decide) ?_
          refine J.sub [0, 1, 3, 4, 5, 6] rfl ?_
          exact hr (v5 + 1) q22.1 g24
set_option maxRecDepth 20000 in
theorem l_X9_pick_51 {X : Xt Int32} (hX : IsM rtI X) (z : Nat) (p0 : Option Nm) (p1 : Int32) (p2 : Int32) (p3 : Int32) (K : Int32 × Int32 × Hp → Option (Int32 × Hp)) (he : ∀ (v5 : Int32) (v4 : Int32) (g : Hp), J yX9_pick cX9_pick 7 (some .int) 2 51 X g 171 [(5, sI v5), (4, sI v4), (0, sR p0), (1, sI p1), (2, sI p2), (3, sI p3)] [] (K (v5, v4, g))) : ∀ (n : Nat) (v5 : Int32) (v4 : Int32) (g : Hp), J yX9_pick cX9_pick 7 (some .int) 2 51 X g 51 [(5, sI v5), (4, sI v4), (0, sR p0), (1, sI p1), (2, sI p2), (3, sI p3)] [] ((f_X9_pick_51_L z p0 p1 p2 p3 n v5 v4 g).bind K)
  | 0, _, _, _ => J.eq rfl J.none
  | n + 1, v5, v4, g => b_X9_pick_51 hX z p0 p1 p2 p3 _ K he (fun v5 v4 g => l_X9_pick_51 hX z p0 p1 p2 p3 K he n v5 v4 g) v5 v4 g
set_option maxRecDepth 20000 in
theorem m_X9_pick (z : Nat) (t : Option Nm) (a0 : Int32) (a1 : Int32) (a2 : Int32) (g : Hp) : FM yX9_pick cX9_pick 7 (some .int) 2 51 rtI [sR t, sI a0, sI a1, sI a2] g (f_X9_pick z t a0 a1 a2 g) := by
  refine FM.entry (by decide +kernel) (Nat.le_of_ble_eq_true rfl) (fun X hX => ?_)
  unfold f_X9_pick
  show J yX9_pick cX9_pick 7 (some .int) 2 51 X g 0 [(0, sR t), (1, sI a0), (2, sI a1), (3, sI a2)] [] _
  refine j_aload_n (pc := 0) 0 dX9_pick_0 rfl rfl ?_
  refine j_iload_n (pc := 1) 1 dX9_pick_1 rfl rfl ?_
  refine j_callV (pc := 2) (own := RX9) [sI a0] [] dX9_pick_2 lc_X9_89 lv_X9_isStation rfl (m_X9_isStation z t a0 g) ⟨⟨Nat.le_of_ble_eq_true rfl, Nat.le_of_ble_eq_true rfl⟩, Nat.le_of_ble_eq_true rfl⟩ rfl rfl (fun q1r q1g => ?_)
  refine j_if_eq (pc := 5) (tgt := 30) dX9_pick_5 (by decide) rfl (fun hc => ?_) (fun hc => ?_)
  · refine j_iconst (pc := 30) (v := (-1)) dX9_pick_30 (by decide) ?_
    exact j_ireturn dX9_pick_31 hX rfl rfl
  · refine j_iload_n (pc := 8) 2 dX9_pick_8 rfl rfl ?_
    refine j_iconst (pc := 9) (v := 0) dX9_pick_9 (by decide) ?_
    refine j_aload_n (pc := 10) 0 dX9_pick_10 rfl rfl ?_
    refine j_getI (pc := 11) (own := RX9) dX9_pick_11 lf_X9_97 rfl rfl (fun x2 => ?_)
    refine j_callS (pc := 14) (own := RX9) [sI a1, sI 0, sI x2] [] dX9_pick_14 lc_X9_72 ls_X9_in rfl (m_X9_in z a1 0 x2 q1g) ⟨⟨Nat.le_of_ble_eq_true rfl, Nat.le_of_ble_eq_true rfl⟩, Nat.le_of_ble_eq_true rfl⟩ rfl rfl (fun q3r q3g => ?_)
    refine j_if_eq (pc := 17) (tgt := 30) dX9_pick_17 (by decide) rfl (fun hc => ?_) (fun hc => ?_)
    · refine j_iconst (pc := 30) (v := (-1)) dX9_pick_30 (by decide) ?_
      exact j_ireturn dX9_pick_31 hX rfl rfl
    · refine j_iload_n (pc := 20) 3 dX9_pick_20 rfl rfl ?_
      refine j_iconst (pc := 21) (v := 1) dX9_pick_21 (by decide) ?_
      refine j_ldc (pc := 22) (own := RX9) (v := 1000000) dX9_pick_22 rfl lk_X9_118 ?_
      refine j_callS (pc := 24) (own := RX9) [sI a2, sI 1, sI 1000000] [] dX9_pick_24 lc_X9_72 ls_X9_in rfl (m_X9_in z a2 1 1000000 q3g) ⟨⟨Nat.le_of_ble_eq_true rfl, Nat.le_of_ble_eq_true rfl⟩, Nat.le_of_ble_eq_true rfl⟩ rfl rfl (fun q4r q4g => ?_)
      refine j_if_ne (pc := 27) (tgt := 32) dX9_pick_27 (by decide) rfl (fun hc => ?_) (fun hc => ?_)
      · refine j_aload_n (pc := 32) 0 dX9_pick_32 rfl rfl ?_
        refine j_getI (pc := 33) (own := RX9) dX9_pick_33 lf_X9_76 rfl rfl (fun x5 => ?_)
        refine j_bipush (pc := 36) (v := 60) dX9_pick_36 (by decide) ?_
        refine j_icmp_ne (pc := 38) (tgt := 44) dX9_pick_38 (by decide) rfl (fun hc => ?_) (fun hc => ?_)
        · refine j_bipush (pc := 44) (v := (-9)) dX9_pick_44 (by decide) ?_
          refine j_istore (pc := 46) (lv' := [(4, sI (-9)), (0, sR t), (1, sI a0), (2, sI a1), (3, sI a2)]) dX9_pick_46 (by decide) rfl ?_
          refine j_iconst (pc := 48) (v := 0) dX9_pick_48 (by decide) ?_
          refine j_istore (pc := 49) (lv' := [(5, sI 0), (4, sI (-9)), (0, sR t), (1, sI a0), (2, sI a1), (3, sI a2)]) dX9_pick_49 (by decide) rfl ?_
          refine l_X9_pick_51 hX z t a0 a1 a2 _ (fun q25_0 q25_1 q25_g => ?_) z 0 (-9) q4g
          refine j_iload (pc := 171) 1 dX9_pick_171 rfl ?_
          refine j_istore (pc := 173) (lv' := [(5, sI q25_1), (4, sI q25_1), (0, sR t), (1, sI a0), (2, sI a1), (3, sI a2)]) dX9_pick_173 (by decide) rfl ?_
          refine j_iload (pc := 175) 1 dX9_pick_175 rfl ?_
          refine J.jn (σ := Int32 × Int32 × Hp) (fun q33 pr => J yX9_pick cX9_pick 7 (some .int) 2 51 X q33.2.2 222 [(5, sI q33.1), (4, sI q33.2.1), (0, sR t), (1, sI a0), (2, sI a1), (3, sI a2)] [] pr) (fun K222 hK222 => ?_) (fun q33 => ?_)
          · refine j_if_ge (pc := 177) (tgt := 222) dX9_pick_177 (by decide) bi (fun hc => ?_) (fun hc => ?_)
            · exact hK222 (q25_1, q25_1, q25_g)
            · refine j_aload_n (pc := 180) 2 dX9_pick_180 rfl rfl ?_
              refine j_getI (pc := 181) (own := RX9) dX9_pick_181 lf_X9_119 rfl bb (fun x26 => ?_)
              refine j_iconst (pc := 184) (v := 5) dX9_pick_184 (by decide) ?_
              refine j_icmp_ge (pc := 185) (tgt := 222) dX9_pick_185 (by decide) bi (fun hc => ?_) (fun hc => ?_)
              · exact hK222 (q25_1, q25_1, q25_g)
              · refine j_aload_n (pc := 188) 2 dX9_pick_188 rfl rfl ?_
                refine j_getI (pc := 189) (own := RX9) dX9_pick_189 lf_X9_119 rfl bb (fun x27 => ?_)
                refine j_istore (pc := 192) (lv' := [(4, sI x27), (5, sI q25_1), (0, sR t), (1, sI a0), (2, sI a1), (3, sI a2)]) dX9_pick_192 (by decide) rfl ?_
                refine j_aload_n (pc := 194) 2 dX9_pick_194 rfl rfl ?_
                refine j_getR (pc := 195) (own := RX9) dX9_pick_195 lf_X9_54 rfl bb (fun x28 => ?_)
                refine j_iload (pc := 198) 0 dX9_pick_198 rfl ?_
                refine j_aload_n (pc := 200) 2 dX9_pick_200 rfl rfl ?_
                refine j_getI (pc := 201) (own := RX9) dX9_pick_201 lf_X9_76 rfl bb (fun x29 => ?_)
                refine j_astI (pc := 204) dX9_pick_204 bb (fun g30 => ?_)
                refine j_aload_n (pc := 205) 2 dX9_pick_205 rfl rfl ?_
                refine j_dup (pc := 206) dX9_pick_206 rfl ?_
                refine j_getI (pc := 207) (own := RX9) dX9_pick_207 lf_X9_119 rfl bb (fun x31 => ?_)
                refine j_iconst (pc := 210) (v := 1) dX9_pick_210 (by decide) ?_
                refine j_iadd (pc := 211) dX9_pick_211 ?_
                refine j_putI (pc := 212) (own := RX9) dX9_pick_212 lf_X9_119 lt_10_20 lw_X9_119_X9_pick rfl bb (fun g32 => ?_)
                refine j_bipush (pc := 215) (v := 10) dX9_pick_215 (by decide) ?_
                refine j_iload (pc := 217) 0 dX9_pick_217 rfl ?_
                refine j_iadd (pc := 219) dX9_pick_219 ?_
                refine j_istore (pc := 220) (lv' := [(5, sI (10 + x27)), (4, sI x27), (0, sR t), (1, sI a0), (2, sI a1), (3, sI a2)]) dX9_pick_220 (by decide) rfl ?_
                exact hK222 ((10 + x27), x27, g32)
          · refine j_aload_n (pc := 222) 2 dX9_pick_222 rfl rfl ?_
            refine j_getR (pc := 223) (own := RX9) dX9_pick_223 lf_X9_42 rfl rfl (fun x34 => ?_)
            refine j_aload_n (pc := 226) 2 dX9_pick_226 rfl rfl ?_
            refine j_getI (pc := 227) (own := RX9) dX9_pick_227 lf_X9_76 rfl rfl (fun x35 => ?_)
            refine j_iload_n (pc := 230) 3 dX9_pick_230 rfl rfl ?_
            refine j_astI (pc := 231) dX9_pick_231 rfl (fun g36 => ?_)
            refine j_aload_n (pc := 232) 2 dX9_pick_232 rfl rfl ?_
            refine j_getR (pc := 233) (own := RX9) dX9_pick_233 lf_X9_45 rfl rfl (fun x37 => ?_)
            refine j_aload_n (pc := 236) 2 dX9_pick_236 rfl rfl ?_
            refine j_getI (pc := 237) (own := RX9) dX9_pick_237 lf_X9_76 rfl rfl (fun x38 => ?_)
            refine j_iload_n (pc := 240) 4 dX9_pick_240 rfl rfl ?_
            refine j_astI (pc := 241) dX9_pick_241 rfl (fun g39 => ?_)
            refine j_aload_n (pc := 242) 2 dX9_pick_242 rfl rfl ?_
            refine j_getR (pc := 243) (own := RX9) dX9_pick_243 lf_X9_48 rfl rfl (fun x40 => ?_)
            refine j_aload_n (pc := 246) 2 dX9_pick_246 rfl rfl ?_
            refine j_getI (pc := 247) (own := RX9) dX9_pick_247 lf_X9_76 rfl rfl (fun x41 => ?_)
            refine j_iload_n (pc := 250) 5 dX9_pick_250 rfl rfl ?_
            refine j_astI (pc := 251) dX9_pick_251 rfl (fun g42 => ?_)
            refine j_aload_n (pc := 252) 2 dX9_pick_252 rfl rfl ?_
            refine j_getR (pc := 253) (own := RX9) dX9_pick_253 lf_X9_51 rfl rfl (fun x43 => ?_)
            refine j_aload_n (pc := 256) 2 dX9_pick_256 rfl rfl ?_
            refine j_getI (pc := 257) (own := RX9) dX9_pick_257 lf_X9_76 rfl rfl (fun x44 => ?_)
            refine j_iload (pc := 260) 1 dX9_pick_260 rfl ?_
            refine j_astI (pc := 262) dX9_pick_262 rfl (fun g45 => ?_)
            refine j_aload_n (pc := 263) 2 dX9_pick_263 rfl rfl ?_
            refine j_dup (pc := 264) dX9_pick_264 rfl ?_
            refine j_getI (pc := 265) (own := RX9) dX9_pick_265 lf_X9_76 rfl rfl (fun x46 => ?_)
            refine j_iconst (pc := 268) (v := 1) dX9_pick_268 (by decide) ?_
            refine j_iadd (pc := 269) dX9_pick_269 ?_
            refine j_putI (pc := 270) (own := RX9) dX9_pick_270 lf_X9_76 lt_10_15 lw_X9_76_X9_pick rfl rfl (fun g47 => ?_)
            refine j_iload (pc := 273) 0 dX9_pick_273 rfl ?_
            exact j_ireturn dX9_pick_275 hX rfl rfl
        · refine j_bipush (pc := 41) (v := (-2)) dX9_pick_41 (by decide) ?_
          exact j_ireturn dX9_pick_43 hX rfl rfl
      · refine j_iconst (pc := 30) (v := (-1)) dX9_pick_30 (by decide) ?_
        exact j_ireturn dX9_pick_31 hX rfl rfl
/-! X9_isPick -/
noncomputable def f_X9_isPick (z : Nat) (t : Option Nm) (a0 : Int32) (g : Hp) : Option (Int32 × Hp) :=
  (getI t 10 15 g).bind fun x1 =>
  (f_X9_in z a0 0 (x1 - 1) g).bind fun q2 =>
  rtZ q2.1 q2.2
set_option maxRecDepth 20000 in
theorem m_X9_isPick (z : Nat) (t : Option Nm) (a0 : Int32) (g : Hp) : FM yX9_isPick cX9_isPick 2 (some .boolean) 1 22 rtI [sR t, sI a0] g (f_X9_isPick z t a0 g) := by
  refine FM.entry (by decide +kernel) (Nat.le_of_ble_eq_true rfl) (fun X hX => ?_)
  unfold f_X9_isPick
  show J yX9_isPick cX9_isPick 2 (some .boolean) 1 22 X g 0 [(0, sR t), (1, sI a0)] [] _
  refine j_iload_n (pc := 0) 1 dX9_isPick_0 rfl rfl ?_
  refine j_iconst (pc := 1) (v := 0) dX9_isPick_1 (by decide) ?_
  refine j_aload_n (pc := 2) 0 dX9_isPick_2 rfl rfl ?_
  refine j_getI (pc := 3) (own := RX9) dX9_isPick_3 lf_X9_76 rfl rfl (fun x1 => ?_)
  refine j_iconst (pc := 6) (v := 1) dX9_isPick_6 (by decide) ?_
  refine j_isub (pc := 7) dX9_isPick_7 ?_
  refine j_callS (pc := 8) (own := RX9) [sI a0, sI 0, sI (x1 - 1)] [] dX9_isPick_8 lc_X9_72 ls_X9_in rfl (m_X9_in z a0 0 (x1 - 1) g) ⟨⟨Nat.le_of_ble_eq_true rfl, Nat.le_of_ble_eq_true rfl⟩, Nat.le_of_ble_eq_true rfl⟩ rfl rfl (fun q2r q2g => ?_)
  exact j_zreturn dX9_isPick_11 hX rfl rfl
/-! X9_kindOf -/
noncomputable def f_X9_kindOf (z : Nat) (t : Option Nm) (a0 : Int32) (g : Hp) : Option (Int32 × Hp) :=
  (getR t 10 19 g).bind fun x1 =>
  (aldI x1 a0 g).bind fun x2 =>
  if 0 ≤ x2 then ((getR t 10 21 g).bind fun x3 =>
    (getR t 10 19 g).bind fun x4 =>
    (aldI x4 a0 g).bind fun x5 =>
    (aldI x3 x5 g).bind fun x6 =>
    if x6 = a0 then (some (2, g))
    else (some (1, g)))
  else (some (3, g))
set_option maxRecDepth 20000 in
theorem m_X9_kindOf (z : Nat) (t : Option Nm) (a0 : Int32) (g : Hp) : FM yX9_kindOf cX9_kindOf 2 (some .int) 0 0 rtI [sR t, sI a0] g (f_X9_kindOf z t a0 g) := by
  refine FM.entry (by decide +kernel) (Nat.le_of_ble_eq_true rfl) (fun X hX => ?_)
  unfold f_X9_kindOf
  show J yX9_kindOf cX9_kindOf 2 (some .int) 0 0 X g 0 [(0, sR t), (1, sI a0)] [] _
  refine j_aload_n (pc := 0) 0 dX9_kindOf_0 rfl rfl ?_
  refine j_getR (pc := 1) (own := RX9) dX9_kindOf_1 lf_X9_51 rfl rfl (fun x1 => ?_)
  refine j_iload_n (pc := 4) 1 dX9_kindOf_4 rfl rfl ?_
  refine j_aldI (pc := 5) dX9_kindOf_5 rfl (fun x2 => ?_)
  refine j_if_ge (pc := 6) (tgt := 13) dX9_kindOf_6 (by decide) rfl (fun hc => ?_) (fun hc => ?_)
  · refine j_aload_n (pc := 13) 0 dX9_kindOf_13 rfl rfl ?_
    refine j_getR (pc := 14) (own := RX9) dX9_kindOf_14 lf_X9_54 rfl rfl (fun x3 => ?_)
    refine j_aload_n (pc := 17) 0 dX9_kindOf_17 rfl rfl ?_
    refine j_getR (pc := 18) (own := RX9) dX9_kindOf_18 lf_X9_51 rfl rfl (fun x4 => ?_)
    refine j_iload_n (pc := 21) 1 dX9_kindOf_21 rfl rfl ?_
    refine j_aldI (pc := 22) dX9_kindOf_22 rfl (fun x5 => ?_)
    refine j_aldI (pc := 23) dX9_kindOf_23 rfl (fun x6 => ?_)
    refine j_iload_n (pc := 24) 1 dX9_kindOf_24 rfl rfl ?_
    refine j_icmp_ne (pc := 25) (tgt := 32) dX9_kindOf_25 (by decide) rfl (fun hc => ?_) (fun hc => ?_)
    · refine j_iconst (pc := 32) (v := 1) dX9_kindOf_32 (by decide) ?_
      exact j_ireturn dX9_kindOf_33 hX rfl rfl
    · refine j_iconst (pc := 28) (v := 2) dX9_kindOf_28 (by decide) ?_
      refine j_goto (pc := 29) (tgt := 33) dX9_kindOf_29 (by decide) ?_
      exact j_ireturn dX9_kindOf_33 hX rfl rfl
  · refine j_iconst (pc := 9) (v := 3) dX9_kindOf_9 (by decide) ?_
    refine j_goto (pc := 10) (tgt := 33) dX9_kindOf_10 (by decide) ?_
    exact j_ireturn dX9_kindOf_33 hX rfl rfl
/-! X9_tells -/
noncomputable def f_X9_tells (z : Nat) (t : Option Nm) (a0 : Int32) (a1 : Int32) (g : Hp) : Option (Int32 × Hp) :=
  tsw a1 [0, 1, 2, 3] [
    ((getR t 10 16 g).bind fun x1 =>
      (aldI x1 a0 g).bind fun x2 =>
      some (x2, g)),
    ((getR t 10 17 g).bind fun x3 =>
      (aldI x3 a0 g).bind fun x4 =>
      some (x4, g)),
    ((getR t 10 18 g).bind fun x5 =>
      (aldI x5 a0 g).bind fun x6 =>
      some (x6, g)),
    ((ick t 10 (f_X9_kindOf z t a0 g)).bind fun q7 =>
      some (q7.1, q7.2))]
    ((getR t 10 19 g).bind fun x8 =>
      (aldI x8 a0 g).bind fun x9 =>
      some (x9, g))
set_option maxRecDepth 20000 in
theorem m_X9_tells (z : Nat) (t : Option Nm) (a0 : Int32) (a1 : Int32) (g : Hp) : FM yX9_tells cX9_tells 3 (some .int) 1 21 rtI [sR t, sI a0, sI a1] g (f_X9_tells z t a0 a1 g) := by
  refine FM.entry (by decide +kernel) (Nat.le_of_ble_eq_true rfl) (fun X hX => ?_)
  unfold f_X9_tells
  show J yX9_tells cX9_tells 3 (some .int) 1 21 X g 0 [(0, sR t), (1, sI a0), (2, sI a1)] [] _
  refine j_iload_n (pc := 0) 2 dX9_tells_0 rfl rfl ?_
  refine j_tsw (ts := [32, 39, 46, 53]) (td := 59) dX9_tells_1 (by decide) (by decide) (by decide) (by decide) (by decide) rfl ?_ ⟨?_, ?_, ?_, ?_, trivial⟩
  · refine j_aload_n (pc := 59) 0 dX9_tells_59 rfl rfl ?_
    refine j_getR (pc := 60) (own := RX9) dX9_tells_60 lf_X9_51 rfl rfl (fun x8 => ?_)
    refine j_iload_n (pc := 63) 1 dX9_tells_63 rfl rfl ?_
    refine j_aldI (pc := 64) dX9_tells_64 rfl (fun x9 => ?_)
    exact j_ireturn dX9_tells_65 hX rfl rfl
  · refine j_aload_n (pc := 32) 0 dX9_tells_32 rfl rfl ?_
    refine j_getR (pc := 33) (own := RX9) dX9_tells_33 lf_X9_42 rfl rfl (fun x1 => ?_)
    refine j_iload_n (pc := 36) 1 dX9_tells_36 rfl rfl ?_
    refine j_aldI (pc := 37) dX9_tells_37 rfl (fun x2 => ?_)
    exact j_ireturn dX9_tells_38 hX rfl rfl
  · refine j_aload_n (pc := 39) 0 dX9_tells_39 rfl rfl ?_
    refine j_getR (pc := 40) (own := RX9) dX9_tells_40 lf_X9_45 rfl rfl (fun x3 => ?_)
    refine j_iload_n (pc := 43) 1 dX9_tells_43 rfl rfl ?_
    refine j_aldI (pc := 44) dX9_tells_44 rfl (fun x4 => ?_)
    exact j_ireturn dX9_tells_45 hX rfl rfl
  · refine j_aload_n (pc := 46) 0 dX9_tells_46 rfl rfl ?_
    refine j_getR (pc := 47) (own := RX9) dX9_tells_47 lf_X9_48 rfl rfl (fun x5 => ?_)
    refine j_iload_n (pc := 50) 1 dX9_tells_50 rfl rfl ?_
    refine j_aldI (pc := 51) dX9_tells_51 rfl (fun x6 => ?_)
    exact j_ireturn dX9_tells_52 hX rfl rfl
  · refine j_aload_n (pc := 53) 0 dX9_tells_53 rfl rfl ?_
    refine j_iload_n (pc := 54) 1 dX9_tells_54 rfl rfl ?_
    refine j_callV (pc := 55) (own := RX9) [sI a0] [] dX9_tells_55 lc_X9_125 lv_X9_kindOf rfl (m_X9_kindOf z t a0 g) ⟨⟨Nat.le_of_ble_eq_true rfl, Nat.le_of_ble_eq_true rfl⟩, Nat.le_of_ble_eq_true rfl⟩ rfl rfl (fun q7r q7g => ?_)
    exact j_ireturn dX9_tells_58 hX rfl rfl
/-! X9_told -/
noncomputable def f_X9_told (z : Nat) (t : Option Nm) (a0 : Int32) (a1 : Int32) (g : Hp) : Option (Int32 × Hp) :=
  (ick t 10 (f_X9_isPick z t a0 g)).bind fun q1 =>
  if q1.1 = 0 then (some ((-1), q1.2))
  else ((f_X9_in z a1 0 4 q1.2).bind fun q2 =>
    if q2.1 = 0 then (some ((-1), q2.2))
    else ((ick t 10 (f_X9_tells z t a0 a1 q2.2)).bind fun q3 =>
      some (q3.1, q3.2)))
set_option maxRecDepth 20000 in
theorem m_X9_told (z : Nat) (t : Option Nm) (a0 : Int32) (a1 : Int32) (g : Hp) : FM yX9_told cX9_told 3 (some .int) 2 43 rtI [sR t, sI a0, sI a1] g (f_X9_told z t a0 a1 g) := by
  refine FM.entry (by decide +kernel) (Nat.le_of_ble_eq_true rfl) (fun X hX => ?_)
  unfold f_X9_told
  show J yX9_told cX9_told 3 (some .int) 2 43 X g 0 [(0, sR t), (1, sI a0), (2, sI a1)] [] _
  refine j_aload_n (pc := 0) 0 dX9_told_0 rfl rfl ?_
  refine j_iload_n (pc := 1) 1 dX9_told_1 rfl rfl ?_
  refine j_callV (pc := 2) (own := RX9) [sI a0] [] dX9_told_2 lc_X9_128 lv_X9_isPick rfl (m_X9_isPick z t a0 g) ⟨⟨Nat.le_of_ble_eq_true rfl, Nat.le_of_ble_eq_true rfl⟩, Nat.le_of_ble_eq_true rfl⟩ rfl rfl (fun q1r q1g => ?_)
  refine j_if_eq (pc := 5) (tgt := 26) dX9_told_5 (by decide) rfl (fun hc => ?_) (fun hc => ?_)
  · refine j_iconst (pc := 26) (v := (-1)) dX9_told_26 (by decide) ?_
    exact j_ireturn dX9_told_27 hX rfl rfl
  · refine j_iload_n (pc := 8) 2 dX9_told_8 rfl rfl ?_
    refine j_iconst (pc := 9) (v := 0) dX9_told_9 (by decide) ?_
    refine j_iconst (pc := 10) (v := 4) dX9_told_10 (by decide) ?_
    refine j_callS (pc := 11) (own := RX9) [sI a1, sI 0, sI 4] [] dX9_told_11 lc_X9_72 ls_X9_in rfl (m_X9_in z a1 0 4 q1g) ⟨⟨Nat.le_of_ble_eq_true rfl, Nat.le_of_ble_eq_true rfl⟩, Nat.le_of_ble_eq_true rfl⟩ rfl rfl (fun q2r q2g => ?_)
    refine j_if_eq (pc := 14) (tgt := 26) dX9_told_14 (by decide) rfl (fun hc => ?_) (fun hc => ?_)
    · refine j_iconst (pc := 26) (v := (-1)) dX9_told_26 (by decide) ?_
      exact j_ireturn dX9_told_27 hX rfl rfl
    · refine j_aload_n (pc := 17) 0 dX9_told_17 rfl rfl ?_
      refine j_iload_n (pc := 18) 1 dX9_told_18 rfl rfl ?_
      refine j_iload_n (pc := 19) 2 dX9_told_19 rfl rfl ?_
      refine j_callV (pc := 20) (own := RX9) [sI a0, sI a1] [] dX9_told_20 lc_X9_131 lv_X9_tells rfl (m_X9_tells z t a0 a1 q2g) ⟨⟨Nat.le_of_ble_eq_true rfl, Nat.le_of_ble_eq_true rfl⟩, Nat.le_of_ble_eq_true rfl⟩ rfl rfl (fun q3r q3g => ?_)
      refine j_goto (pc := 23) (tgt := 27) dX9_told_23 (by decide) ?_
      exact j_ireturn dX9_told_27 hX rfl rfl
/-! X9_mark -/
noncomputable def f_X9_mark (z : Nat) (t : Option Nm) (a0 : Int32) (a1 : Int32) (g : Hp) : Option (Int32 × Hp) :=
  (ick t 10 (f_X9_isPick z t a0 g)).bind fun q1 =>
  if q1.1 = 0 then (some ((-1), q1.2))
  else ((f_X9_in z a1 0 3 q1.2).bind fun q2 =>
    if q2.1 = 0 then (some ((-1), q2.2))
    else ((ick t 10 (f_X9_kindOf z t a0 q2.2)).bind fun q3 =>
      if a1 = 0 then (if a1 = 1 then ((getR t 10 19 q3.2).bind fun x4 =>
          (aldI x4 a0 q3.2).bind fun x5 =>
          some (x5, q3.2))
        else (if a1 = 2 then ((getR t 10 19 q3.2).bind fun x8 =>
            (aldI x8 a0 q3.2).bind fun x9 =>
            some (x9, q3.2))
          else ((getR t 10 17 q3.2).bind fun x6 =>
            (aldI x6 a0 q3.2).bind fun x7 =>
            some (x7, q3.2))))
      else (if a1 = q3.1 then (if a1 = 1 then ((getR t 10 19 q3.2).bind fun x10 =>
            (aldI x10 a0 q3.2).bind fun x11 =>
            some (x11, q3.2))
          else (if a1 = 2 then ((getR t 10 19 q3.2).bind fun x14 =>
              (aldI x14 a0 q3.2).bind fun x15 =>
              some (x15, q3.2))
            else ((getR t 10 17 q3.2).bind fun x12 =>
              (aldI x12 a0 q3.2).bind fun x13 =>
              some (x13, q3.2))))
        else (if a1 = 1 then (if q3.1 = 2 then (if a1 = 1 then ((getR t 10 19 q3.2).bind fun x17 =>
                (aldI x17 a0 q3.2).bind fun x18 =>
                some (x18, q3.2))
              else (if a1 = 2 then ((getR t 10 19 q3.2).bind fun x21 =>
                  (aldI x21 a0 q3.2).bind fun x22 =>
                  some (x22, q3.2))
                else ((getR t 10 17 q3.2).bind fun x19 =>
                  (aldI x19 a0 q3.2).bind fun x20 =>
                  some (x20, q3.2))))
            else ((ick t 10 (f_X9_meets z t 3 q3.2)).bind fun q23 =>
              some (q23.1, q23.2)))
          else ((ick t 10 (f_X9_meets z t 3 q3.2)).bind fun q16 =>
            some (q16.1, q16.2))))))
set_option maxRecDepth 20000 in
theorem m_X9_mark (z : Nat) (t : Option Nm) (a0 : Int32) (a1 : Int32) (g : Hp) : FM yX9_mark cX9_mark 4 (some .int) 2 43 rtI [sR t, sI a0, sI a1] g (f_X9_mark z t a0 a1 g) := by
  refine FM.entry (by decide +kernel) (Nat.le_of_ble_eq_true rfl) (fun X hX => ?_)
  unfold f_X9_mark
  show J yX9_mark cX9_mark 4 (some .int) 2 43 X g 0 [(0, sR t), (1, sI a0), (2, sI a1)] [] _
  refine j_aload_n (pc := 0) 0 dX9_mark_0 rfl rfl ?_
  refine j_iload_n (pc := 1) 1 dX9_mark_1 rfl rfl ?_
  refine j_callV (pc := 2) (own := RX9) [sI a0] [] dX9_mark_2 lc_X9_128 lv_X9_isPick rfl (m_X9_isPick z t a0 g) ⟨⟨Nat.le_of_ble_eq_true rfl, Nat.le_of_ble_eq_true rfl⟩, Nat.le_of_ble_eq_true rfl⟩ rfl rfl (fun q1r q1g => ?_)
  refine j_if_eq (pc := 5) (tgt := 17) dX9_mark_5 (by decide) rfl (fun hc => ?_) (fun hc => ?_)
  · refine j_iconst (pc := 17) (v := (-1)) dX9_mark_17 (by decide) ?_
    exact j_ireturn dX9_mark_18 hX rfl rfl
  · refine j_iload_n (pc := 8) 2 dX9_mark_8 rfl rfl ?_
    refine j_iconst (pc := 9) (v := 0) dX9_mark_9 (by decide) ?_
    refine j_iconst (pc := 10) (v := 3) dX9_mark_10 (by decide) ?_
    refine j_callS (pc := 11) (own := RX9) [sI a1, sI 0, sI 3] [] dX9_mark_11 lc_X9_72 ls_X9_in rfl (m_X9_in z a1 0 3 q1g) ⟨⟨Nat.le_of_ble_eq_true rfl, Nat.le_of_ble_eq_true rfl⟩, Nat.le_of_ble_eq_true rfl⟩ rfl rfl (fun q2r q2g => ?_)
    refine j_if_ne (pc := 14) (tgt := 19) dX9_mark_14 (by decide) rfl (fun hc => ?_) (fun hc => ?_)
    · refine j_aload_n (pc := 19) 0 dX9_mark_19 rfl rfl ?_
      refine j_iload_n (pc := 20) 1 dX9_mark_20 rfl rfl ?_
      refine j_callV (pc := 21) (own := RX9) [sI a0] [] dX9_mark_21 lc_X9_125 lv_X9_kindOf rfl (m_X9_kindOf z t a0 q2g) ⟨⟨Nat.le_of_ble_eq_true rfl, Nat.le_of_ble_eq_true rfl⟩, Nat.le_of_ble_eq_true rfl⟩ rfl rfl (fun q3r q3g => ?_)
      refine j_istore_n (pc := 24) (lv' := [(3, sI q3r), (0, sR t), (1, sI a0), (2, sI a1)]) dX9_mark_24 rfl (by decide) rfl ?_
      refine j_iload_n (pc := 25) 3 dX9_mark_25 rfl rfl ?_
      refine j_if_eq (pc := 26) (tgt := 50) dX9_mark_26 (by decide) rfl (fun hc => ?_) (fun hc => ?_)
      · refine j_iload_n (pc := 50) 3 dX9_mark_50 rfl rfl ?_
        refine j_iconst (pc := 51) (v := 1) dX9_mark_51 (by decide) ?_
        refine j_icmp_eq (pc := 52) (tgt := 60) dX9_mark_52 (by decide) rfl (fun hc => ?_) (fun hc => ?_)
        · refine j_aload_n (pc := 60) 1 dX9_mark_60 rfl rfl ?_
          refine j_getR (pc := 61) (own := RX9) dX9_mark_61 lf_X9_51 rfl rfl (fun x4 => ?_)
          refine j_iload_n (pc := 64) 2 dX9_mark_64 rfl rfl ?_
          refine j_aldI (pc := 65) dX9_mark_65 rfl (fun x5 => ?_)
          refine j_goto (pc := 66) (tgt := 75) dX9_mark_66 (by decide) ?_
          exact j_ireturn dX9_mark_75 hX rfl rfl
        · refine j_iload_n (pc := 55) 3 dX9_mark_55 rfl rfl ?_
          refine j_iconst (pc := 56) (v := 2) dX9_mark_56 (by decide) ?_
          refine j_icmp_ne (pc := 57) (tgt := 69) dX9_mark_57 (by decide) rfl (fun hc => ?_) (fun hc => ?_)
          · refine j_aload_n (pc := 69) 1 dX9_mark_69 rfl rfl ?_
            refine j_getR (pc := 70) (own := RX9) dX9_mark_70 lf_X9_45 rfl rfl (fun x6 => ?_)
            refine j_iload_n (pc := 73) 2 dX9_mark_73 rfl rfl ?_
            refine j_aldI (pc := 74) dX9_mark_74 rfl (fun x7 => ?_)
            exact j_ireturn dX9_mark_75 hX rfl rfl
          · refine j_aload_n (pc := 60) 1 dX9_mark_60 rfl rfl ?_
            refine j_getR (pc := 61) (own := RX9) dX9_mark_61 lf_X9_51 rfl rfl (fun x8 => ?_)
            refine j_iload_n (pc := 64) 2 dX9_mark_64 rfl rfl ?_
            refine j_aldI (pc := 65) dX9_mark_65 rfl (fun x9 => ?_)
            refine j_goto (pc := 66) (tgt := 75) dX9_mark_66 (by decide) ?_
            exact j_ireturn dX9_mark_75 hX rfl rfl
      · refine j_iload_n (pc := 29) 3 dX9_mark_29 rfl rfl ?_
        refine j_iload_n (pc := 30) 0 dX9_mark_30 rfl rfl ?_
        refine j_icmp_eq (pc := 31) (tgt := 50) dX9_mark_31 (by decide) rfl (fun hc => ?_) (fun hc => ?_)
        · refine j_iload_n (pc := 50) 3 dX9_mark_50 rfl rfl ?_
          refine j_iconst (pc := 51) (v := 1) dX9_mark_51 (by decide) ?_
          refine j_icmp_eq (pc := 52) (tgt := 60) dX9_mark_52 (by decide) rfl (fun hc => ?_) (fun hc => ?_)
          · refine j_aload_n (pc := 60) 1 dX9_mark_60 rfl rfl ?_
            refine j_getR (pc := 61) (own := RX9) dX9_mark_61 lf_X9_51 rfl rfl (fun x10 => ?_)
            refine j_iload_n (pc := 64) 2 dX9_mark_64 rfl rfl ?_
            refine j_aldI (pc := 65) dX9_mark_65 rfl (fun x11 => ?_)
            refine j_goto (pc := 66) (tgt := 75) dX9_mark_66 (by decide) ?_
            exact j_ireturn dX9_mark_75 hX rfl rfl
          · refine j_iload_n (pc := 55) 3 dX9_mark_55 rfl rfl ?_
            refine j_iconst (pc := 56) (v := 2) dX9_mark_56 (by decide) ?_
            refine j_icmp_ne (pc := 57) (tgt := 69) dX9_mark_57 (by decide) rfl (fun hc => ?_) (fun hc => ?_)
            · refine j_aload_n (pc := 69) 1 dX9_mark_69 rfl rfl ?_
              refine j_getR (pc := 70) (own := RX9) dX9_mark_70 lf_X9_45 rfl rfl (fun x12 => ?_)
              refine j_iload_n (pc := 73) 2 dX9_mark_73 rfl rfl ?_
              refine j_aldI (pc := 74) dX9_mark_74 rfl (fun x13 => ?_)
              exact j_ireturn dX9_mark_75 hX rfl rfl
            · refine j_aload_n (pc := 60) 1 dX9_mark_60 rfl rfl ?_
              refine j_getR (pc := 61) (own := RX9) dX9_mark_61 lf_X9_51 rfl rfl (fun x14 => ?_)
              refine j_iload_n (pc := 64) 2 dX9_mark_64 rfl rfl ?_
              refine j_aldI (pc := 65) dX9_mark_65 rfl (fun x15 => ?_)
              refine j_goto (pc := 66) (tgt := 75) dX9_mark_66 (by decide) ?_
              exact j_ireturn dX9_mark_75 hX rfl rfl
        · refine j_iload_n (pc := 34) 3 dX9_mark_34 rfl rfl ?_
          refine j_iconst (pc := 35) (v := 1) dX9_mark_35 (by decide) ?_
          refine j_icmp_ne (pc := 36) (tgt := 44) dX9_mark_36 (by decide) rfl (fun hc => ?_) (fun hc => ?_)
          · refine j_aload_n (pc := 44) 1 dX9_mark_44 rfl rfl ?_
            refine j_iconst (pc := 45) (v := 3) dX9_mark_45 (by decide) ?_
            refine j_callV (pc := 46) (own := RX9) [sI 3] [] dX9_mark_46 lc_X9_100 lv_X9_meets rfl (m_X9_meets z t 3 q3g) ⟨⟨Nat.le_of_ble_eq_true rfl, Nat.le_of_ble_eq_true rfl⟩, Nat.le_of_ble_eq_true rfl⟩ rfl rfl (fun q16r q16g => ?_)
            exact j_ireturn dX9_mark_49 hX rfl rfl
          · refine j_iload_n (pc := 39) 0 dX9_mark_39 rfl rfl ?_
            refine j_iconst (pc := 40) (v := 2) dX9_mark_40 (by decide) ?_
            refine j_icmp_eq (pc := 41) (tgt := 50) dX9_mark_41 (by decide) rfl (fun hc => ?_) (fun hc => ?_)
            · refine j_iload_n (pc := 50) 3 dX9_mark_50 rfl rfl ?_
              refine j_iconst (pc := 51) (v := 1) dX9_mark_51 (by decide) ?_
              refine j_icmp_eq (pc := 52) (tgt := 60) dX9_mark_52 (by decide) rfl (fun hc => ?_) (fun hc => ?_)
              · refine j_aload_n (pc := 60) 1 dX9_mark_60 rfl rfl ?_
                refine j_getR (pc := 61) (own := RX9) dX9_mark_61 lf_X9_51 rfl rfl (fun x17 => ?_)
                refine j_iload_n (pc := 64) 2 dX9_mark_64 rfl rfl ?_
                refine j_aldI (pc := 65) dX9_mark_65 rfl (fun x18 => ?_)
                refine j_goto (pc := 66) (tgt := 75) dX9_mark_66 (by decide) ?_
                exact j_ireturn dX9_mark_75 hX rfl rfl
              · refine j_iload_n (pc := 55) 3 dX9_mark_55 rfl rfl ?_
                refine j_iconst (pc := 56) (v := 2) dX9_mark_56 (by decide) ?_
                refine j_icmp_ne (pc := 57) (tgt := 69) dX9_mark_57 (by decide) rfl (fun hc => ?_) (fun hc => ?_)
                · refine j_aload_n (pc := 69) 1 dX9_mark_69 rfl rfl ?_
                  refine j_getR (pc := 70) (own := RX9) dX9_mark_70 lf_X9_45 rfl rfl (fun x19 => ?_)
                  refine j_iload_n (pc := 73) 2 dX9_mark_73 rfl rfl ?_
                  refine j_aldI (pc := 74) dX9_mark_74 rfl (fun x20 => ?_)
                  exact j_ireturn dX9_mark_75 hX rfl rfl
                · refine j_aload_n (pc := 60) 1 dX9_mark_60 rfl rfl ?_
                  refine j_getR (pc := 61) (own := RX9) dX9_mark_61 lf_X9_51 rfl rfl (fun x21 => ?_)
                  refine j_iload_n (pc := 64) 2 dX9_mark_64 rfl rfl ?_
                  refine j_aldI (pc := 65) dX9_mark_65 rfl (fun x22 => ?_)
                  refine j_goto (pc := 66) (tgt := 75) dX9_mark_66 (by decide) ?_
                  exact j_ireturn dX9_mark_75 hX rfl rfl
            · refine j_aload_n (pc := 44) 1 dX9_mark_44 rfl rfl ?_
              refine j_iconst (pc := 45) (v := 3) dX9_mark_45 (by decide) ?_
              refine j_callV (pc := 46) (own := RX9) [sI 3] [] dX9_mark_46 lc_X9_100 lv_X9_meets rfl (m_X9_meets z t 3 q3g) ⟨⟨Nat.le_of_ble_eq_true rfl, Nat.le_of_ble_eq_true rfl⟩, Nat.le_of_ble_eq_true rfl⟩ rfl rfl (fun q23r q23g => ?_)
              exact j_ireturn dX9_mark_49 hX rfl rfl
    · refine j_iconst (pc := 17) (v := (-1)) dX9_mark_17 (by decide) ?_
      exact j_ireturn dX9_mark_18 hX rfl rfl
/-! X9_isQuake -/
noncomputable def f_X9_isQuake (z : Nat) (t : Option Nm) (a0 : Int32) (g : Hp) : Option (Int32 × Hp) :=
  (getI t 10 20 g).bind fun x1 =>
  (f_X9_in z a0 0 (x1 - 1) g).bind fun q2 =>
  rtZ q2.1 q2.2
set_option maxRecDepth 20000 in
theorem m_X9_isQuake (z : Nat) (t : Option Nm) (a0 : Int32) (g : Hp) : FM yX9_isQuake cX9_isQuake 2 (some .boolean) 1 22 rtI [sR t, sI a0] g (f_X9_isQuake z t a0 g) := by
  refine FM.entry (by decide +kernel) (Nat.le_of_ble_eq_true rfl) (fun X hX => ?_)
  unfold f_X9_isQuake
  show J yX9_isQuake cX9_isQuake 2 (some .boolean) 1 22 X g 0 [(0, sR t), (1, sI a0)] [] _
  refine j_iload_n (pc := 0) 1 dX9_isQuake_0 rfl rfl ?_
  refine j_iconst (pc := 1) (v := 0) dX9_isQuake_1 (by decide) ?_
  refine j_aload_n (pc := 2) 0 dX9_isQuake_2 rfl rfl ?_
  refine j_getI (pc := 3) (own := RX9) dX9_isQuake_3 lf_X9_119 rfl rfl (fun x1 => ?_)
  refine j_iconst (pc := 6) (v := 1) dX9_isQuake_6 (by decide) ?_
  refine j_isub (pc := 7) dX9_isQuake_7 ?_
  refine j_callS (pc := 8) (own := RX9) [sI a0, sI 0, sI (x1 - 1)] [] dX9_isQuake_8 lc_X9_72 ls_X9_in rfl (m_X9_in z a0 0 (x1 - 1) g) ⟨⟨Nat.le_of_ble_eq_true rfl, Nat.le_of_ble_eq_true rfl⟩, Nat.le_of_ble_eq_true rfl⟩ rfl rfl (fun q2r q2g => ?_)
  exact j_zreturn dX9_isQuake_11 hX rfl rfl
/-! X9_bits -/
noncomputable def f_X9_bits_2_b (z : Nat) (p0 : Int32) (rec : Int32 → Hp → Option (Int32 × Hp)) (v1 : Int32) (g : Hp) : Option (Int32 × Hp) :=
  if (p0 >>> (v1 &&& 31)) = 0 then (some (v1, g))
  else (rec (v1 + 1) g)
noncomputable def f_X9_bits_2_L (z : Nat) (p0 : Int32) : Nat → Int32 → Hp → Option (Int32 × Hp)
  | 0, _, _ => none
  | n + 1, v1, g => f_X9_bits_2_b z p0 (f_X9_bits_2_L z p0 n) v1 g
noncomputable def f_X9_bits (z : Nat) (a0 : Int32) (g : Hp) : Option (Int32 × Hp) :=
  (f_X9_bits_2_L z a0 z 0 g).bind fun q1 =>
  some (q1.1, q1.2)
set_option maxRecDepth 20000 in
theorem b_X9_bits_2 {X : Xt Int32} (hX : IsM rtI X) (z : Nat) (p0 : Int32) (rec : Int32 → Hp → Option (Int32 × Hp)) (K : Int32 × Hp → Option (Int32 × Hp)) (he : ∀ (v1 : Int32) (g : Hp), J yX9_bits cX9_bits 2 (some .int) 0 0 X g 14 [(1, sI v1), (0, sI p0)] [] (K (v1, g))) (hr : ∀ (v1 : Int32) (g : Hp), J yX9_bits cX9_bits 2 (some .int) 0 0 X g 2 [(1, sI v1), (0, sI p0)] [] ((rec v1 g).bind K)) (v1 : Int32) (g : Hp) : J yX9_bits cX9_bits 2 (some .int) 0 0 X g 2 [(1, sI v1), (0, sI p0)] [] ((f_X9_bits_2_b z p0 rec v1 g).bind K) := by
  unfold f_X9_bits_2_b
  refine j_iload_n (pc := 2) 1 dX9_bits_2 rfl rfl ?_
  refine j_iload_n (pc := 3) 0 dX9_bits_3 rfl rfl ?_
  refine j_ishr (pc := 4) dX9_bits_4 ?_
  refine j_if_eq (pc := 5) (tgt := 14) dX9_bits_5 (by decide) bi (fun hc => ?_) (fun hc => ?_)
  · exact he v1 g
  · refine j_iinc (pc := 8) (v := (v1 + 1)) (lv' := [(1, sI (v1 + 1)), (0, sI p0)]) 0 dX9_bits_8 rfl rfl (by decide) rfl ?_
    refine j_goto (pc := 11) (tgt := 2) dX9_bits_11 (by decide) ?_
    exact hr (v1 + 1) g
set_option maxRecDepth 20000 in
theorem l_X9_bits_2 {X : Xt Int32} (hX : IsM rtI X) (z : Nat) (p0 : Int32) (K : Int32 × Hp → Option (Int32 × Hp)) (he : ∀ (v1 : Int32) (g : Hp), J yX9_bits cX9_bits 2 (some .int) 0 0 X g 14 [(1, sI v1), (0, sI p0)] [] (K (v1, g))) : ∀ (n : Nat) (v1 : Int32) (g : Hp), J yX9_bits cX9_bits 2 (some .int) 0 0 X g 2 [(1, sI v1), (0, sI p0)] [] ((f_X9_bits_2_L z p0 n v1 g).bind K)
  | 0, _, _ => J.eq rfl J.none
  | n + 1, v1, g => b_X9_bits_2 hX z p0 _ K he (fun v1 g => l_X9_bits_2 hX z p0 K he n v1 g) v1 g
set_option maxRecDepth 20000 in
theorem m_X9_bits (z : Nat) (a0 : Int32) (g : Hp) : FM yX9_bits cX9_bits 2 (some .int) 0 0 rtI [sI a0] g (f_X9_bits z a0 g) := by
  refine FM.entry (by decide +kernel) (Nat.le_of_ble_eq_true rfl) (fun X hX => ?_)
  unfold f_X9_bits
  show J yX9_bits cX9_bits 2 (some .int) 0 0 X g 0 [(0, sI a0)] [] _
  refine j_iconst (pc := 0) (v := 0) dX9_bits_0 (by decide) ?_
  refine j_istore_n (pc := 1) (lv' := [(1, sI 0), (0, sI a0)]) dX9_bits_1 rfl (by decide) rfl ?_
  refine l_X9_bits_2 hX z a0 _ (fun q1_0 q1_g => ?_) z 0 g
  refine j_iload_n (pc := 14) 0 dX9_bits_14 rfl rfl ?_
  exact j_ireturn dX9_bits_15 hX rfl rfl
/-! X9_sizeAt -/
noncomputable def f_X9_sizeAt (z : Nat) (t : Option Nm) (a0 : Int32) (a1 : Int32) (g : Hp) : Option (Int32 × Hp) :=
  (getR t 10 21 g).bind fun x1 =>
  (aldI x1 a0 g).bind fun x2 =>
  (getR t 10 18 g).bind fun x3 =>
  (aldI x3 x2 g).bind fun x4 =>
  (getR t 10 7 g).bind fun x5 =>
  (getR t 10 16 g).bind fun x6 =>
  (aldI x6 x2 g).bind fun x7 =>
  (aldI x5 x7 g).bind fun x8 =>
  (ick t 10 (f_X9_travels z t a1 x8 g)).bind fun q9 =>
  (f_X9_bits z (x4 * (q9.1 + 1)) q9.2).bind fun q10 =>
  some (q10.1, q10.2)
set_option maxRecDepth 20000 in
theorem m_X9_sizeAt (z : Nat) (t : Option Nm) (a0 : Int32) (a1 : Int32) (g : Hp) : FM yX9_sizeAt cX9_sizeAt 4 (some .int) 1 26 rtI [sR t, sI a0, sI a1] g (f_X9_sizeAt z t a0 a1 g) := by
  refine FM.entry (by decide +kernel) (Nat.le_of_ble_eq_true rfl) (fun X hX => ?_)
  unfold f_X9_sizeAt
  show J yX9_sizeAt cX9_sizeAt 4 (some .int) 1 26 X g 0 [(0, sR t), (1, sI a0), (2, sI a1)] [] _
  refine j_aload_n (pc := 0) 0 dX9_sizeAt_0 rfl rfl ?_
  refine j_getR (pc := 1) (own := RX9) dX9_sizeAt_1 lf_X9_54 rfl rfl (fun x1 => ?_)
  refine j_iload_n (pc := 4) 1 dX9_sizeAt_4 rfl rfl ?_
  refine j_aldI (pc := 5) dX9_sizeAt_5 rfl (fun x2 => ?_)
  refine j_istore_n (pc := 6) (lv' := [(3, sI x2), (0, sR t), (1, sI a0), (2, sI a1)]) dX9_sizeAt_6 rfl (by decide) rfl ?_
  refine j_aload_n (pc := 7) 1 dX9_sizeAt_7 rfl rfl ?_
  refine j_getR (pc := 8) (own := RX9) dX9_sizeAt_8 lf_X9_48 rfl rfl (fun x3 => ?_)
  refine j_iload_n (pc := 11) 0 dX9_sizeAt_11 rfl rfl ?_
  refine j_aldI (pc := 12) dX9_sizeAt_12 rfl (fun x4 => ?_)
  refine j_aload_n (pc := 13) 1 dX9_sizeAt_13 rfl rfl ?_
  refine j_iload_n (pc := 14) 3 dX9_sizeAt_14 rfl rfl ?_
  refine j_aload_n (pc := 15) 1 dX9_sizeAt_15 rfl rfl ?_
  refine j_getR (pc := 16) (own := RX9) dX9_sizeAt_16 lf_X9_20 rfl rfl (fun x5 => ?_)
  refine j_aload_n (pc := 19) 1 dX9_sizeAt_19 rfl rfl ?_
  refine j_getR (pc := 20) (own := RX9) dX9_sizeAt_20 lf_X9_42 rfl rfl (fun x6 => ?_)
  refine j_iload_n (pc := 23) 0 dX9_sizeAt_23 rfl rfl ?_
  refine j_aldI (pc := 24) dX9_sizeAt_24 rfl (fun x7 => ?_)
  refine j_aldI (pc := 25) dX9_sizeAt_25 rfl (fun x8 => ?_)
  refine j_callV (pc := 26) (own := RX9) [sI a1, sI x8] [sI x4] dX9_sizeAt_26 lc_X9_92 lv_X9_travels rfl (m_X9_travels z t a1 x8 g) ⟨⟨Nat.le_of_ble_eq_true rfl, Nat.le_of_ble_eq_true rfl⟩, Nat.le_of_ble_eq_true rfl⟩ rfl rfl (fun q9r q9g => ?_)
  refine j_iconst (pc := 29) (v := 1) dX9_sizeAt_29 (by decide) ?_
  refine j_iadd (pc := 30) dX9_sizeAt_30 ?_
  refine j_imul (pc := 31) dX9_sizeAt_31 ?_
  refine j_callS (pc := 32) (own := RX9) [sI (x4 * (q9r + 1))] [] dX9_sizeAt_32 lc_X9_134 ls_X9_bits rfl (m_X9_bits z (x4 * (q9r + 1)) q9g) ⟨⟨Nat.le_of_ble_eq_true rfl, Nat.le_of_ble_eq_true rfl⟩, Nat.le_of_ble_eq_true rfl⟩ rfl rfl (fun q10r q10g => ?_)
  exact j_ireturn dX9_sizeAt_35 hX rfl rfl
/-! X9_sizeOf -/
noncomputable def f_X9_sizeOf_6_b (z : Nat) (p0 : Option Nm) (p1 : Int32) (p2 : Int32) (rec : Int32 → Int32 → Hp → Option (Int32 × Int32 × Hp)) (v4 : Int32) (v3 : Int32) (g : Hp) : Option (Int32 × Int32 × Hp) :=
  if 144 ≤ v4 then (some (v4, v3, g))
  else ((ick p0 10 (f_X9_has z p0 v4 g)).bind fun q1 =>
    if q1.1 = 0 then (rec (v4 + 1) v3 q1.2)
    else ((ick p0 10 (f_X9_sizeAt z p0 p1 v4 q1.2)).bind fun q2 =>
      if v3 < 0 then (rec (v4 + 1) q2.1 q2.2)
      else (if p2 = 0 then (if v3 ≤ q2.1 then (rec (v4 + 1) v3 q2.2)
          else (rec (v4 + 1) q2.1 q2.2))
        else (if q2.1 ≤ v3 then (rec (v4 + 1) v3 q2.2)
          else (rec (v4 + 1) q2.1 q2.2)))))
noncomputable def f_X9_sizeOf_6_L (z : Nat) (p0 : Option Nm) (p1 : Int32) (p2 : Int32) : Nat → Int32 → Int32 → Hp → Option (Int32 × Int32 × Hp)
  | 0, _, _, _ => none
  | n + 1, v4, v3, g => f_X9_sizeOf_6_b z p0 p1 p2 (f_X9_sizeOf_6_L z p0 p1 p2 n) v4 v3 g
noncomputable def f_X9_sizeOf (z : Nat) (t : Option Nm) (a0 : Int32) (a1 : Int32) (g : Hp) : Option (Int32 × Hp) :=
  (f_X9_sizeOf_6_L z t a0 a1 z 0 (-9) g).bind fun q3 =>
  some (q3.2.1, q3.2.2)
set_option maxRecDepth 20000 in
theorem b_X9_sizeOf_6 {X : Xt Int32} (hX : IsM rtI X) (z : Nat) (p0 : Option Nm) (p1 : Int32) (p2 : Int32) (rec : Int32 → Int32 → Hp → Option (Int32 × Int32 × Hp)) (K : Int32 × Int32 × Hp → Option (Int32 × Hp)) (he : ∀ (v4 : Int32) (v3 : Int32) (g : Hp), J yX9_sizeOf cX9_sizeOf 6 (some .int) 2 49 X g 68 [(4, sI v4), (3, sI v3), (0, sR p0), (1, sI p1), (2, sI p2)] [] (K (v4, v3, g))) (hr : ∀ (v4 : Int32) (v3 : Int32) (g : Hp), J yX9_sizeOf cX9_sizeOf 6 (some .int) 2 49 X g 6 [(4, sI v4), (3, sI v3), (0, sR p0), (1, sI p1), (2, sI p2)] [] ((rec v4 v3 g).bind K)) (v4 : Int32) (v3 : Int32) (g : Hp) : J yX9_sizeOf cX9_sizeOf 6 (some .int) 2 49 X g 6 [(4, sI v4), (3, sI v3), (0, sR p0), (1, sI p1), (2, sI p2)] [] ((f_X9_sizeOf_6_b z p0 p1 p2 rec v4 v3 g).bind K) := by
  unfold f_X9_sizeOf_6_b
  refine j_iload (pc := 6) 0 dX9_sizeOf_6 rfl ?_
  refine j_sipush (pc := 8) (v := 144) dX9_sizeOf_8 (by decide) ?_
  refine j_icmp_ge (pc := 11) (tgt := 68) dX9_sizeOf_11 (by decide) bi (fun hc => ?_) (fun hc => ?_)
  · exact he v4 v3 g
  · refine j_aload_n (pc := 14) 2 dX9_sizeOf_14 rfl rfl ?_
    refine j_iload (pc := 15) 0 dX9_sizeOf_15 rfl ?_
    refine j_callV (pc := 17) (own := RX9) [sI v4] [] dX9_sizeOf_17 lc_X9_137 lv_X9_has rfl (m_X9_has z p0 v4 g) ⟨⟨Nat.le_of_ble_eq_true rfl, Nat.le_of_ble_eq_true rfl⟩, Nat.le_of_ble_eq_true rfl⟩ rfl bb (fun q1r q1g => ?_)
    refine j_if_eq (pc := 20) (tgt := 62) dX9_sizeOf_20 (by decide) bi (fun hc => ?_) (fun hc => ?_)
    · refine j_iinc (pc := 62) (v := (v4 + 1)) (lv' := [(4, sI (v4 + 1)), (3, sI v3), (0, sR p0), (1, sI p1), (2, sI p2)]) 0 dX9_sizeOf_62 rfl rfl (by decide) rfl ?_
      refine j_goto (pc := 65) (tgt := 6) dX9_sizeOf_65 (by decide) ?_
      exact hr (v4 + 1) v3 q1g
    · refine j_aload_n (pc := 23) 2 dX9_sizeOf_23 rfl rfl ?_
      refine j_iload_n (pc := 24) 3 dX9_sizeOf_24 rfl rfl ?_
      refine j_iload (pc := 25) 0 dX9_sizeOf_25 rfl ?_
      refine j_callV (pc := 27) (own := RX9) [sI p1, sI v4] [] dX9_sizeOf_27 lc_X9_140 lv_X9_sizeAt rfl (m_X9_sizeAt z p0 p1 v4 q1g) ⟨⟨Nat.le_of_ble_eq_true rfl, Nat.le_of_ble_eq_true rfl⟩, Nat.le_of_ble_eq_true rfl⟩ rfl bb (fun q2r q2g => ?_)
      refine j_istore (pc := 30) (lv' := [(5, sI q2r), (4, sI v4), (3, sI v3), (0, sR p0), (1, sI p1), (2, sI p2)]) dX9_sizeOf_30 (by decide) rfl ?_
      refine j_iload_n (pc := 32) 2 dX9_sizeOf_32 rfl rfl ?_
      refine j_if_lt (pc := 33) (tgt := 55) dX9_sizeOf_33 (by decide) bi (fun hc => ?_) (fun hc => ?_)
      · refine j_iload (pc := 55) 0 dX9_sizeOf_55 rfl ?_
        refine j_goto (pc := 57) (tgt := 61) dX9_sizeOf_57 (by decide) ?_
        refine j_istore_n (pc := 61) (lv' := [(3, sI q2r), (5, sI q2r), (4, sI v4), (0, sR p0), (1, sI p1), (2, sI p2)]) dX9_sizeOf_61 rfl (by decide) rfl ?_
        refine j_iinc (pc := 62) (v := (v4 + 1)) (lv' := [(4, sI (v4 + 1)), (3, sI q2r), (5, sI q2r), (0, sR p0), (1, sI p1), (2, sI p2)]) 2 dX9_sizeOf_62 rfl rfl (by decide) rfl ?_
        refine j_goto (pc := 65) (tgt := 6) dX9_sizeOf_65 (by decide) ?_
        refine J.sub [0, 1, 3, 4, 5] rfl ?_
        exact hr (v4 + 1) q2r q2g
      · refine j_iload_n (pc := 36) 5 dX9_sizeOf_36 rfl rfl ?_
        refine j_if_eq (pc := 37) (tgt := 49) dX9_sizeOf_37 (by decide) bi (fun hc => ?_) (fun hc => ?_)
        · refine j_iload (pc := 49) 0 dX9_sizeOf_49 rfl ?_
          refine j_iload_n (pc := 51) 2 dX9_sizeOf_51 rfl rfl ?_
          refine j_icmp_ge (pc := 52) (tgt := 60) dX9_sizeOf_52 (by decide) bi (fun hc => ?_) (fun hc => ?_)
          · refine j_iload_n (pc := 60) 2 dX9_sizeOf_60 rfl rfl ?_
            refine j_istore_n (pc := 61) (lv' := [(3, sI v3), (5, sI q2r), (4, sI v4), (0, sR p0), (1, sI p1), (2, sI p2)]) dX9_sizeOf_61 rfl (by decide) rfl ?_
            refine j_iinc (pc := 62) (v := (v4 + 1)) (lv' := [(4, sI (v4 + 1)), (3, sI v3), (5, sI q2r), (0, sR p0), (1, sI p1), (2, sI p2)]) 2 dX9_sizeOf_62 rfl rfl (by decide) rfl ?_
            refine j_goto (pc := 65) (tgt := 6) dX9_sizeOf_65 (by decide) ?_
            refine J.sub [0, 1, 3, 4, 5] rfl ?_
            exact hr (v4 + 1) v3 q2g
          · refine j_iload (pc := 55) 0 dX9_sizeOf_55 rfl ?_
            refine j_goto (pc := 57) (tgt := 61) dX9_sizeOf_57 (by decide) ?_
            refine j_istore_n (pc := 61) (lv' := [(3, sI q2r), (5, sI q2r), (4, sI v4), (0, sR p0), (1, sI p1), (2, sI p2)]) dX9_sizeOf_61 rfl (by decide) rfl ?_
            refine j_iinc (pc := 62) (v := (v4 + 1)) (lv' := [(4, sI (v4 + 1)), (3, sI q2r), (5, sI q2r), (0, sR p0), (1, sI p1), (2, sI p2)]) 2 dX9_sizeOf_62 rfl rfl (by decide) rfl ?_
            refine j_goto (pc := 65) (tgt := 6) dX9_sizeOf_65 (by decide) ?_
            refine J.sub [0, 1, 3, 4, 5] rfl ?_
            exact hr (v4 + 1) q2r q2g
        · refine j_iload (pc := 40) 0 dX9_sizeOf_40 rfl ?_
          refine j_iload_n (pc := 42) 2 dX9_sizeOf_42 rfl rfl ?_
          refine j_icmp_le (pc := 43) (tgt := 60) dX9_sizeOf_43 (by decide) bi (fun hc => ?_) (fun hc => ?_)
          · refine j_iload_n (pc := 60) 2 dX9_sizeOf_60 rfl rfl ?_
            refine j_istore_n (pc := 61) (lv' := [(3, sI v3), (5, sI q2r), (4, sI v4), (0, sR p0), (1, sI p1), (2, sI p2)]) dX9_sizeOf_61 rfl (by decide) rfl ?_
            refine j_iinc (pc := 62) (v := (v4 + 1)) (lv' := [(4, sI (v4 + 1)), (3, sI v3), (5, sI q2r), (0, sR p0), (1, sI p1), (2, sI p2)]) 2 dX9_sizeOf_62 rfl rfl (by decide) rfl ?_
            refine j_goto (pc := 65) (tgt := 6) dX9_sizeOf_65 (by decide) ?_
            refine J.sub [0, 1, 3, 4, 5] rfl ?_
            exact hr (v4 + 1) v3 q2g
          · refine j_goto (pc := 46) (tgt := 55) dX9_sizeOf_46 (by decide) ?_
            refine j_iload (pc := 55) 0 dX9_sizeOf_55 rfl ?_
            refine j_goto (pc := 57) (tgt := 61) dX9_sizeOf_57 (by decide) ?_
            refine j_istore_n (pc := 61) (lv' := [(3, sI q2r), (5, sI q2r), (4, sI v4), (0, sR p0), (1, sI p1), (2, sI p2)]) dX9_sizeOf_61 rfl (by decide) rfl ?_
            refine j_iinc (pc := 62) (v := (v4 + 1)) (lv' := [(4, sI (v4 + 1)), (3, sI q2r), (5, sI q2r), (0, sR p0), (1, sI p1), (2, sI p2)]) 2 dX9_sizeOf_62 rfl rfl (by decide) rfl ?_
            refine j_goto (pc := 65) (tgt := 6) dX9_sizeOf_65 (by decide) ?_
            refine J.sub [0, 1, 3, 4, 5] rfl ?_
            exact hr (v4 + 1) q2r q2g
set_option maxRecDepth 20000 in
theorem l_X9_sizeOf_6 {X : Xt Int32} (hX : IsM rtI X) (z : Nat) (p0 : Option Nm) (p1 : Int32) (p2 : Int32) (K : Int32 × Int32 × Hp → Option (Int32 × Hp)) (he : ∀ (v4 : Int32) (v3 : Int32) (g : Hp), J yX9_sizeOf cX9_sizeOf 6 (some .int) 2 49 X g 68 [(4, sI v4), (3, sI v3), (0, sR p0), (1, sI p1), (2, sI p2)] [] (K (v4, v3, g))) : ∀ (n : Nat) (v4 : Int32) (v3 : Int32) (g : Hp), J yX9_sizeOf cX9_sizeOf 6 (some .int) 2 49 X g 6 [(4, sI v4), (3, sI v3), (0, sR p0), (1, sI p1), (2, sI p2)] [] ((f_X9_sizeOf_6_L z p0 p1 p2 n v4 v3 g).bind K)
  | 0, _, _, _ => J.eq rfl J.none
  | n + 1, v4, v3, g => b_X9_sizeOf_6 hX z p0 p1 p2 _ K he (fun v4 v3 g => l_X9_sizeOf_6 hX z p0 p1 p2 K he n v4 v3 g) v4 v3 g
set_option maxRecDepth 20000 in
theorem m_X9_sizeOf (z : Nat) (t : Option Nm) (a0 : Int32) (a1 : Int32) (g : Hp) : FM yX9_sizeOf cX9_sizeOf 6 (some .int) 2 49 rtI [sR t, sI a0, sI a1] g (f_X9_sizeOf z t a0 a1 g) := by
  refine FM.entry (by decide +kernel) (Nat.le_of_ble_eq_true rfl) (fun X hX => ?_)
  unfold f_X9_sizeOf
  show J yX9_sizeOf cX9_sizeOf 6 (some .int) 2 49 X g 0 [(0, sR t), (1, sI a0), (2, sI a1)] [] _
  refine j_bipush (pc := 0) (v := (-9)) dX9_sizeOf_0 (by decide) ?_
  refine j_istore_n (pc := 2) (lv' := [(3, sI (-9)), (0, sR t), (1, sI a0), (2, sI a1)]) dX9_sizeOf_2 rfl (by decide) rfl ?_
  refine j_iconst (pc := 3) (v := 0) dX9_sizeOf_3 (by decide) ?_
  refine j_istore (pc := 4) (lv' := [(4, sI 0), (3, sI (-9)), (0, sR t), (1, sI a0), (2, sI a1)]) dX9_sizeOf_4 (by decide) rfl ?_
  refine l_X9_sizeOf_6 hX z t a0 a1 _ (fun q3_0 q3_1 q3_g => ?_) z 0 (-9) g
  refine j_iload_n (pc := 68) 1 dX9_sizeOf_68 rfl rfl ?_
  exact j_ireturn dX9_sizeOf_69 hX rfl rfl
/-! X9_tellsQuake -/
noncomputable def f_X9_tellsQuake_43_b (z : Nat) (p3 : Int32) (p0 : Option Nm) (p1 : Int32) (p2 : Int32) (rec : Int32 → Int32 → Hp → Option (Int32 × Int32 × Hp)) (v5 : Int32) (v4 : Int32) (g : Hp) : Option (Int32 × Int32 × Hp) :=
  (getI p0 10 15 g).bind fun x2 =>
  if x2 ≤ v5 then (some (v5, v4, g))
  else ((getR p0 10 19 g).bind fun x3 =>
    (aldI x3 v5 g).bind fun x4 =>
    ((if x4 = p1 then (some (1))
      else (some (0))) : Option (Int32)).bind fun q5 =>
    rec (v5 + 1) (v4 + q5) g)
noncomputable def f_X9_tellsQuake_43_L (z : Nat) (p3 : Int32) (p0 : Option Nm) (p1 : Int32) (p2 : Int32) : Nat → Int32 → Int32 → Hp → Option (Int32 × Int32 × Hp)
  | 0, _, _, _ => none
  | n + 1, v5, v4, g => f_X9_tellsQuake_43_b z p3 p0 p1 p2 (f_X9_tellsQuake_43_L z p3 p0 p1 p2 n) v5 v4 g
noncomputable def f_X9_tellsQuake (z : Nat) (t : Option Nm) (a0 : Int32) (a1 : Int32) (g : Hp) : Option (Int32 × Hp) :=
  (ick t 10 (f_X9_setHeap z t a0 g)).bind fun q1 =>
  tsw a1 [0, 1, 2, 3] [
    ((f_X9_tellsQuake_43_L z q1.1 t a0 a1 z 0 0 q1.2).bind fun q6 =>
      some (q6.2.1, q6.2.2)),
    (some (q1.1, q1.2)),
    ((ick t 10 (f_X9_sizeOf z t a0 0 q1.2)).bind fun q7 =>
      some (q7.1, q7.2)),
    ((ick t 10 (f_X9_sizeOf z t a0 1 q1.2)).bind fun q8 =>
      some (q8.1, q8.2))]
    (if q1.1 = 0 then (some (1, q1.2))
      else (some (0, q1.2)))
set_option maxRecDepth 20000 in
theorem b_X9_tellsQuake_43 {X : Xt Int32} (hX : IsM rtI X) (z : Nat) (p3 : Int32) (p0 : Option Nm) (p1 : Int32) (p2 : Int32) (rec : Int32 → Int32 → Hp → Option (Int32 × Int32 × Hp)) (K : Int32 × Int32 × Hp → Option (Int32 × Hp)) (he : ∀ (v5 : Int32) (v4 : Int32) (g : Hp), J yX9_tellsQuake cX9_tellsQuake 6 (some .int) 3 74 X g 79 [(5, sI v5), (4, sI v4), (3, sI p3), (0, sR p0), (1, sI p1), (2, sI p2)] [] (K (v5, v4, g))) (hr : ∀ (v5 : Int32) (v4 : Int32) (g : Hp), J yX9_tellsQuake cX9_tellsQuake 6 (some .int) 3 74 X g 43 [(5, sI v5), (4, sI v4), (3, sI p3), (0, sR p0), (1, sI p1), (2, sI p2)] [] ((rec v5 v4 g).bind K)) (v5 : Int32) (v4 : Int32) (g : Hp) : J yX9_tellsQuake cX9_tellsQuake 6 (some .int) 3 74 X g 43 [(5, sI v5), (4, sI v4), (3, sI p3), (0, sR p0), (1, sI p1), (2, sI p2)] [] ((f_X9_tellsQuake_43_b z p3 p0 p1 p2 rec v5 v4 g).bind K) := by
  unfold f_X9_tellsQuake_43_b
  refine j_iload (pc := 43) 0 dX9_tellsQuake_43 rfl ?_
  refine j_aload_n (pc := 45) 3 dX9_tellsQuake_45 rfl rfl ?_
  refine j_getI (pc := 46) (own := RX9) dX9_tellsQuake_46 lf_X9_76 rfl bb (fun x2 => ?_)
  refine j_icmp_ge (pc := 49) (tgt := 79) dX9_tellsQuake_49 (by decide) bi (fun hc => ?_) (fun hc => ?_)
  · exact he v5 v4 g
  · refine j_iload (pc := 52) 1 dX9_tellsQuake_52 rfl ?_
    refine j_aload_n (pc := 54) 3 dX9_tellsQuake_54 rfl rfl ?_
    refine j_getR (pc := 55) (own := RX9) dX9_tellsQuake_55 lf_X9_51 rfl bb (fun x3 => ?_)
    refine j_iload (pc := 58) 0 dX9_tellsQuake_58 rfl ?_
    refine j_aldI (pc := 60) dX9_tellsQuake_60 bb (fun x4 => ?_)
    refine j_iload_n (pc := 61) 4 dX9_tellsQuake_61 rfl rfl ?_
    refine J.eq bb ?_
    refine J.jn (σ := Int32) (fun q5 pr => J yX9_tellsQuake cX9_tellsQuake 6 (some .int) 3 74 X g 70 [(5, sI v5), (4, sI v4), (3, sI p3), (0, sR p0), (1, sI p1), (2, sI p2)] [sI q5, sI v4] pr) (fun K70 hK70 => ?_) (fun q5 => ?_)
    · refine j_icmp_ne (pc := 62) (tgt := 69) dX9_tellsQuake_62 (by decide) bi (fun hc => ?_) (fun hc => ?_)
      · refine j_iconst (pc := 69) (v := 0) dX9_tellsQuake_69 (by decide) ?_
        exact hK70 (0)
      · refine j_iconst (pc := 65) (v := 1) dX9_tellsQuake_65 (by decide) ?_
        refine j_goto (pc := 66) (tgt := 70) dX9_tellsQuake_66 (by decide) ?_
        exact hK70 (1)
    · refine j_iadd (pc := 70) dX9_tellsQuake_70 ?_
      refine j_istore (pc := 71) (lv' := [(4, sI (v4 + q5)), (5, sI v5), (3, sI p3), (0, sR p0), (1, sI p1), (2, sI p2)]) dX9_tellsQuake_71 (by decide) rfl ?_
      refine j_iinc (pc := 73) (v := (v5 + 1)) (lv' := [(5, sI (v5 + 1)), (4, sI (v4 + q5)), (3, sI p3), (0, sR p0), (1, sI p1), (2, sI p2)]) 1 dX9_tellsQuake_73 rfl rfl (by decide) rfl ?_
      refine j_goto (pc := 76) (tgt := 43) dX9_tellsQuake_76 (by decide) ?_
      exact hr (v5 + 1) (v4 + q5) g
set_option maxRecDepth 20000 in
theorem l_X9_tellsQuake_43 {X : Xt Int32} (hX : IsM rtI X) (z : Nat) (p3 : Int32) (p0 : Option Nm) (p1 : Int32) (p2 : Int32) (K : Int32 × Int32 × Hp → Option (Int32 × Hp)) (he : ∀ (v5 : Int32) (v4 : Int32) (g : Hp), J yX9_tellsQuake cX9_tellsQuake 6 (some .int) 3 74 X g 79 [(5, sI v5), (4, sI v4), (3, sI p3), (0, sR p0), (1, sI p1), (2, sI p2)] [] (K (v5, v4, g))) : ∀ (n : Nat) (v5 : Int32) (v4 : Int32) (g : Hp), J yX9_tellsQuake cX9_tellsQuake 6 (some .int) 3 74 X g 43 [(5, sI v5), (4, sI v4), (3, sI p3), (0, sR p0), (1, sI p1), (2, sI p2)] [] ((f_X9_tellsQuake_43_L z p3 p0 p1 p2 n v5 v4 g).bind K)
  | 0, _, _, _ => J.eq rfl J.none
  | n + 1, v5, v4, g => b_X9_tellsQuake_43 hX z p3 p0 p1 p2 _ K he (fun v5 v4 g => l_X9_tellsQuake_43 hX z p3 p0 p1 p2 K he n v5 v4 g) v5 v4 g
set_option maxRecDepth 20000 in
theorem m_X9_tellsQuake (z : Nat) (t : Option Nm) (a0 : Int32) (a1 : Int32) (g : Hp) : FM yX9_tellsQuake cX9_tellsQuake 6 (some .int) 3 74 rtI [sR t, sI a0, sI a1] g (f_X9_tellsQuake z t a0 a1 g) := by
  refine FM.entry (by decide +kernel) (Nat.le_of_ble_eq_true rfl) (fun X hX => ?_)
  unfold f_X9_tellsQuake
  show J yX9_tellsQuake cX9_tellsQuake 6 (some .int) 3 74 X g 0 [(0, sR t), (1, sI a0), (2, sI a1)] [] _
  refine j_aload_n (pc := 0) 0 dX9_tellsQuake_0 rfl rfl ?_
  refine j_iload_n (pc := 1) 1 dX9_tellsQuake_1 rfl rfl ?_
  refine j_callV (pc := 2) (own := RX9) [sI a0] [] dX9_tellsQuake_2 lc_X9_122 lv_X9_setHeap rfl (m_X9_setHeap z t a0 g) ⟨⟨Nat.le_of_ble_eq_true rfl, Nat.le_of_ble_eq_true rfl⟩, Nat.le_of_ble_eq_true rfl⟩ rfl rfl (fun q1r q1g => ?_)
  refine j_istore_n (pc := 5) (lv' := [(3, sI q1r), (0, sR t), (1, sI a0), (2, sI a1)]) dX9_tellsQuake_5 rfl (by decide) rfl ?_
  refine j_iconst (pc := 6) (v := 0) dX9_tellsQuake_6 (by decide) ?_
  refine j_istore (pc := 7) (lv' := [(4, sI 0), (3, sI q1r), (0, sR t), (1, sI a0), (2, sI a1)]) dX9_tellsQuake_7 (by decide) rfl ?_
  refine j_iload_n (pc := 9) 4 dX9_tellsQuake_9 rfl rfl ?_
  refine j_tsw (ts := [40, 82, 84, 91]) (td := 98) dX9_tellsQuake_10 (by decide) (by decide) (by decide) (by decide) (by decide) rfl ?_ ⟨?_, ?_, ?_, ?_, trivial⟩
  · refine j_iload_n (pc := 98) 1 dX9_tellsQuake_98 rfl rfl ?_
    refine j_if_ne (pc := 99) (tgt := 106) dX9_tellsQuake_99 (by decide) rfl (fun hc => ?_) (fun hc => ?_)
    · refine j_iconst (pc := 106) (v := 0) dX9_tellsQuake_106 (by decide) ?_
      exact j_ireturn dX9_tellsQuake_107 hX rfl rfl
    · refine j_iconst (pc := 102) (v := 1) dX9_tellsQuake_102 (by decide) ?_
      refine j_goto (pc := 103) (tgt := 107) dX9_tellsQuake_103 (by decide) ?_
      exact j_ireturn dX9_tellsQuake_107 hX rfl rfl
  · refine j_iconst (pc := 40) (v := 0) dX9_tellsQuake_40 (by decide) ?_
    refine j_istore (pc := 41) (lv' := [(5, sI 0), (4, sI 0), (3, sI q1r), (0, sR t), (1, sI a0), (2, sI a1)]) dX9_tellsQuake_41 (by decide) rfl ?_
    refine l_X9_tellsQuake_43 hX z q1r t a0 a1 _ (fun q6_0 q6_1 q6_g => ?_) z 0 0 q1g
    refine j_iload (pc := 79) 1 dX9_tellsQuake_79 rfl ?_
    exact j_ireturn dX9_tellsQuake_81 hX rfl rfl
  · refine j_iload_n (pc := 82) 1 dX9_tellsQuake_82 rfl rfl ?_
    exact j_ireturn dX9_tellsQuake_83 hX rfl rfl
  · refine j_aload_n (pc := 84) 2 dX9_tellsQuake_84 rfl rfl ?_
    refine j_iload_n (pc := 85) 3 dX9_tellsQuake_85 rfl rfl ?_
    refine j_iconst (pc := 86) (v := 0) dX9_tellsQuake_86 (by decide) ?_
    refine j_callV (pc := 87) (own := RX9) [sI a0, sI 0] [] dX9_tellsQuake_87 lc_X9_143 lv_X9_sizeOf rfl (m_X9_sizeOf z t a0 0 q1g) ⟨⟨Nat.le_of_ble_eq_true rfl, Nat.le_of_ble_eq_true rfl⟩, Nat.le_of_ble_eq_true rfl⟩ rfl rfl (fun q7r q7g => ?_)
    exact j_ireturn dX9_tellsQuake_90 hX rfl rfl
  · refine j_aload_n (pc := 91) 2 dX9_tellsQuake_91 rfl rfl ?_
    refine j_iload_n (pc := 92) 3 dX9_tellsQuake_92 rfl rfl ?_
    refine j_iconst (pc := 93) (v := 1) dX9_tellsQuake_93 (by decide) ?_
    refine j_callV (pc := 94) (own := RX9) [sI a0, sI 1] [] dX9_tellsQuake_94 lc_X9_143 lv_X9_sizeOf rfl (m_X9_sizeOf z t a0 1 q1g) ⟨⟨Nat.le_of_ble_eq_true rfl, Nat.le_of_ble_eq_true rfl⟩, Nat.le_of_ble_eq_true rfl⟩ rfl rfl (fun q8r q8g => ?_)
    exact j_ireturn dX9_tellsQuake_97 hX rfl rfl
/-! X9_quake -/
noncomputable def f_X9_quake (z : Nat) (t : Option Nm) (a0 : Int32) (a1 : Int32) (g : Hp) : Option (Int32 × Hp) :=
  (ick t 10 (f_X9_isQuake z t a0 g)).bind fun q1 =>
  if q1.1 = 0 then (some ((-1), q1.2))
  else ((f_X9_in z a1 0 4 q1.2).bind fun q2 =>
    if q2.1 = 0 then (some ((-1), q2.2))
    else ((ick t 10 (f_X9_tellsQuake z t a0 a1 q2.2)).bind fun q3 =>
      some (q3.1, q3.2)))
set_option maxRecDepth 20000 in
theorem m_X9_quake (z : Nat) (t : Option Nm) (a0 : Int32) (a1 : Int32) (g : Hp) : FM yX9_quake cX9_quake 3 (some .int) 4 99 rtI [sR t, sI a0, sI a1] g (f_X9_quake z t a0 a1 g) := by
  refine FM.entry (by decide +kernel) (Nat.le_of_ble_eq_true rfl) (fun X hX => ?_)
  unfold f_X9_quake
  show J yX9_quake cX9_quake 3 (some .int) 4 99 X g 0 [(0, sR t), (1, sI a0), (2, sI a1)] [] _
  refine j_aload_n (pc := 0) 0 dX9_quake_0 rfl rfl ?_
  refine j_iload_n (pc := 1) 1 dX9_quake_1 rfl rfl ?_
  refine j_callV (pc := 2) (own := RX9) [sI a0] [] dX9_quake_2 lc_X9_147 lv_X9_isQuake rfl (m_X9_isQuake z t a0 g) ⟨⟨Nat.le_of_ble_eq_true rfl, Nat.le_of_ble_eq_true rfl⟩, Nat.le_of_ble_eq_true rfl⟩ rfl rfl (fun q1r q1g => ?_)
  refine j_if_eq (pc := 5) (tgt := 26) dX9_quake_5 (by decide) rfl (fun hc => ?_) (fun hc => ?_)
  · refine j_iconst (pc := 26) (v := (-1)) dX9_quake_26 (by decide) ?_
    exact j_ireturn dX9_quake_27 hX rfl rfl
  · refine j_iload_n (pc := 8) 2 dX9_quake_8 rfl rfl ?_
    refine j_iconst (pc := 9) (v := 0) dX9_quake_9 (by decide) ?_
    refine j_iconst (pc := 10) (v := 4) dX9_quake_10 (by decide) ?_
    refine j_callS (pc := 11) (own := RX9) [sI a1, sI 0, sI 4] [] dX9_quake_11 lc_X9_72 ls_X9_in rfl (m_X9_in z a1 0 4 q1g) ⟨⟨Nat.le_of_ble_eq_true rfl, Nat.le_of_ble_eq_true rfl⟩, Nat.le_of_ble_eq_true rfl⟩ rfl rfl (fun q2r q2g => ?_)
    refine j_if_eq (pc := 14) (tgt := 26) dX9_quake_14 (by decide) rfl (fun hc => ?_) (fun hc => ?_)
    · refine j_iconst (pc := 26) (v := (-1)) dX9_quake_26 (by decide) ?_
      exact j_ireturn dX9_quake_27 hX rfl rfl
    · refine j_aload_n (pc := 17) 0 dX9_quake_17 rfl rfl ?_
      refine j_iload_n (pc := 18) 1 dX9_quake_18 rfl rfl ?_
      refine j_iload_n (pc := 19) 2 dX9_quake_19 rfl rfl ?_
      refine j_callV (pc := 20) (own := RX9) [sI a0, sI a1] [] dX9_quake_20 lc_X9_150 lv_X9_tellsQuake rfl (m_X9_tellsQuake z t a0 a1 q2g) ⟨⟨Nat.le_of_ble_eq_true rfl, Nat.le_of_ble_eq_true rfl⟩, Nat.le_of_ble_eq_true rfl⟩ rfl rfl (fun q3r q3g => ?_)
      refine j_goto (pc := 23) (tgt := 27) dX9_quake_23 (by decide) ?_
      exact j_ireturn dX9_quake_27 hX rfl rfl
/-! X9_cell -/
noncomputable def f_X9_cell_22_b (z : Nat) (p3 : Int32) (p0 : Option Nm) (p1 : Int32) (p2 : Int32) (rec : Int32 → Int32 → Hp → Option (Int32 × Hp)) (v5 : Int32) (v4 : Int32) (g : Hp) : Option (Int32 × Hp) :=
  if 144 ≤ v5 then (some ((-9), g))
  else (if p3 ≤ p2 then (some ((-9), g))
    else ((ick p0 10 (f_X9_has z p0 v5 g)).bind fun q3 =>
      if q3.1 = 0 then (rec (v5 + 1) v4 q3.2)
      else (if v4 = p2 then (some (v5, q3.2))
        else (rec (v5 + 1) (v4 + 1) q3.2))))
noncomputable def f_X9_cell_22_L (z : Nat) (p3 : Int32) (p0 : Option Nm) (p1 : Int32) (p2 : Int32) : Nat → Int32 → Int32 → Hp → Option (Int32 × Hp)
  | 0, _, _, _ => none
  | n + 1, v5, v4, g => f_X9_cell_22_b z p3 p0 p1 p2 (f_X9_cell_22_L z p3 p0 p1 p2 n) v5 v4 g
noncomputable def f_X9_cell (z : Nat) (t : Option Nm) (a0 : Int32) (a1 : Int32) (g : Hp) : Option (Int32 × Hp) :=
  (ick t 10 (f_X9_isQuake z t a0 g)).bind fun q1 =>
  if q1.1 = 0 then (some ((-1), q1.2))
  else ((ick t 10 (f_X9_setHeap z t a0 q1.2)).bind fun q2 =>
    f_X9_cell_22_L z q2.1 t a0 a1 z 0 0 q2.2)
set_option maxRecDepth 20000 in
theorem b_X9_cell_22 {X : Xt Int32} (hX : IsM rtI X) (z : Nat) (p3 : Int32) (p0 : Option Nm) (p1 : Int32) (p2 : Int32) (rec : Int32 → Int32 → Hp → Option (Int32 × Hp)) (hr : ∀ (v5 : Int32) (v4 : Int32) (g : Hp), J yX9_cell cX9_cell 6 (some .int) 2 51 X g 22 [(5, sI v5), (4, sI v4), (3, sI p3), (0, sR p0), (1, sI p1), (2, sI p2)] [] (rec v5 v4 g)) (v5 : Int32) (v4 : Int32) (g : Hp) : J yX9_cell cX9_cell 6 (some .int) 2 51 X g 22 [(5, sI v5), (4, sI v4), (3, sI p3), (0, sR p0), (1, sI p1), (2, sI p2)] [] (f_X9_cell_22_b z p3 p0 p1 p2 rec v5 v4 g) := by
  unfold f_X9_cell_22_b
  refine j_iload (pc := 22) 0 dX9_cell_22 rfl ?_
  refine j_sipush (pc := 24) (v := 144) dX9_cell_24 (by decide) ?_
  refine j_icmp_ge (pc := 27) (tgt := 62) dX9_cell_27 (by decide) rfl (fun hc => ?_) (fun hc => ?_)
  · refine j_bipush (pc := 62) (v := (-9)) dX9_cell_62 (by decide) ?_
    exact j_ireturn dX9_cell_64 hX rfl rfl
  · refine j_iload_n (pc := 30) 5 dX9_cell_30 rfl rfl ?_
    refine j_iload_n (pc := 31) 2 dX9_cell_31 rfl rfl ?_
    refine j_icmp_ge (pc := 32) (tgt := 62) dX9_cell_32 (by decide) rfl (fun hc => ?_) (fun hc => ?_)
    · refine j_bipush (pc := 62) (v := (-9)) dX9_cell_62 (by decide) ?_
      exact j_ireturn dX9_cell_64 hX rfl rfl
    · refine j_aload_n (pc := 35) 3 dX9_cell_35 rfl rfl ?_
      refine j_iload (pc := 36) 0 dX9_cell_36 rfl ?_
      refine j_callV (pc := 38) (own := RX9) [sI v5] [] dX9_cell_38 lc_X9_137 lv_X9_has rfl (m_X9_has z p0 v5 g) ⟨⟨Nat.le_of_ble_eq_true rfl, Nat.le_of_ble_eq_true rfl⟩, Nat.le_of_ble_eq_true rfl⟩ rfl rfl (fun q3r q3g => ?_)
      refine j_if_eq (pc := 41) (tgt := 56) dX9_cell_41 (by decide) rfl (fun hc => ?_) (fun hc => ?_)
      · refine j_iinc (pc := 56) (v := (v5 + 1)) (lv' := [(5, sI (v5 + 1)), (4, sI v4), (3, sI p3), (0, sR p0), (1, sI p1), (2, sI p2)]) 0 dX9_cell_56 rfl rfl (by decide) rfl ?_
        refine j_goto (pc := 59) (tgt := 22) dX9_cell_59 (by decide) ?_
        exact hr (v5 + 1) v4 q3g
      · refine j_iload (pc := 44) 1 dX9_cell_44 rfl ?_
        refine j_iload_n (pc := 46) 5 dX9_cell_46 rfl rfl ?_
        refine j_icmp_ne (pc := 47) (tgt := 53) dX9_cell_47 (by decide) rfl (fun hc => ?_) (fun hc => ?_)
        · refine j_iinc (pc := 53) (v := (v4 + 1)) (lv' := [(4, sI (v4 + 1)), (5, sI v5), (3, sI p3), (0, sR p0), (1, sI p1), (2, sI p2)]) 1 dX9_cell_53 rfl rfl (by decide) rfl ?_
          refine j_iinc (pc := 56) (v := (v5 + 1)) (lv' := [(5, sI (v5 + 1)), (4, sI (v4 + 1)), (3, sI p3), (0, sR p0), (1, sI p1), (2, sI p2)]) 1 dX9_cell_56 rfl rfl (by decide) rfl ?_
          refine j_goto (pc := 59) (tgt := 22) dX9_cell_59 (by decide) ?_
          exact hr (v5 + 1) (v4 + 1) q3g
        · refine j_iload (pc := 50) 0 dX9_cell_50 rfl ?_
          exact j_ireturn dX9_cell_52 hX rfl rfl
set_option maxRecDepth 20000 in
theorem l_X9_cell_22 {X : Xt Int32} (hX : IsM rtI X) (z : Nat) (p3 : Int32) (p0 : Option Nm) (p1 : Int32) (p2 : Int32) : ∀ (n : Nat) (v5 : Int32) (v4 : Int32) (g : Hp), J yX9_cell cX9_cell 6 (some .int) 2 51 X g 22 [(5, sI v5), (4, sI v4), (3, sI p3), (0, sR p0), (1, sI p1), (2, sI p2)] [] (f_X9_cell_22_L z p3 p0 p1 p2 n v5 v4 g)
  | 0, _, _, _ => J.none
  | n + 1, v5, v4, g => b_X9_cell_22 hX z p3 p0 p1 p2 _ (fun v5 v4 g => l_X9_cell_22 hX z p3 p0 p1 p2 n v5 v4 g) v5 v4 g
set_option maxRecDepth 20000 in
theorem m_X9_cell (z : Nat) (t : Option Nm) (a0 : Int32) (a1 : Int32) (g : Hp) : FM yX9_cell cX9_cell 6 (some .int) 2 51 rtI [sR t, sI a0, sI a1] g (f_X9_cell z t a0 a1 g) := by
  refine FM.entry (by decide +kernel) (Nat.le_of_ble_eq_true rfl) (fun X hX => ?_)
  unfold f_X9_cell
  show J yX9_cell cX9_cell 6 (some .int) 2 51 X g 0 [(0, sR t), (1, sI a0), (2, sI a1)] [] _
  refine j_aload_n (pc := 0) 0 dX9_cell_0 rfl rfl ?_
  refine j_iload_n (pc := 1) 1 dX9_cell_1 rfl rfl ?_
  refine j_callV (pc := 2) (own := RX9) [sI a0] [] dX9_cell_2 lc_X9_147 lv_X9_isQuake rfl (m_X9_isQuake z t a0 g) ⟨⟨Nat.le_of_ble_eq_true rfl, Nat.le_of_ble_eq_true rfl⟩, Nat.le_of_ble_eq_true rfl⟩ rfl rfl (fun q1r q1g => ?_)
  refine j_if_ne (pc := 5) (tgt := 10) dX9_cell_5 (by decide) rfl (fun hc => ?_) (fun hc => ?_)
  · refine j_aload_n (pc := 10) 0 dX9_cell_10 rfl rfl ?_
    refine j_iload_n (pc := 11) 1 dX9_cell_11 rfl rfl ?_
    refine j_callV (pc := 12) (own := RX9) [sI a0] [] dX9_cell_12 lc_X9_122 lv_X9_setHeap rfl (m_X9_setHeap z t a0 q1g) ⟨⟨Nat.le_of_ble_eq_true rfl, Nat.le_of_ble_eq_true rfl⟩, Nat.le_of_ble_eq_true rfl⟩ rfl rfl (fun q2r q2g => ?_)
    refine j_istore_n (pc := 15) (lv' := [(3, sI q2r), (0, sR t), (1, sI a0), (2, sI a1)]) dX9_cell_15 rfl (by decide) rfl ?_
    refine j_iconst (pc := 16) (v := 0) dX9_cell_16 (by decide) ?_
    refine j_istore (pc := 17) (lv' := [(4, sI 0), (3, sI q2r), (0, sR t), (1, sI a0), (2, sI a1)]) dX9_cell_17 (by decide) rfl ?_
    refine j_iconst (pc := 19) (v := 0) dX9_cell_19 (by decide) ?_
    refine j_istore (pc := 20) (lv' := [(5, sI 0), (4, sI 0), (3, sI q2r), (0, sR t), (1, sI a0), (2, sI a1)]) dX9_cell_20 (by decide) rfl ?_
    exact l_X9_cell_22 hX z q2r t a0 a1 z 0 0 q2g
  · refine j_iconst (pc := 8) (v := (-1)) dX9_cell_8 (by decide) ?_
    exact j_ireturn dX9_cell_9 hX rfl rfl
/-! X9_time -/
noncomputable def f_X9_time (z : Nat) (t : Option Nm) (a0 : Int32) (a1 : Int32) (a2 : Int32) (g : Hp) : Option (Int32 × Hp) :=
  (ick t 10 (f_X9_isQuake z t a0 g)).bind fun q1 =>
  if q1.1 = 0 then (some ((-1), q1.2))
  else ((f_X9_isCell z a1 q1.2).bind fun q2 =>
    if q2.1 = 0 then (some ((-1), q2.2))
    else ((ick t 10 (f_X9_setHeap z t a0 q2.2)).bind fun q3 =>
      (ick t 10 (f_X9_has z t a1 q3.2)).bind fun q4 =>
      if q4.1 = 0 then (some ((-9), q4.2))
      else (if a2 = 0 then ((getR t 10 22 q4.2).bind fun x5 =>
          (aldI x5 a1 q4.2).bind fun x6 =>
          (putI t 10 2 x6 q4.2).bind fun g7 =>
          some (1, g7))
        else ((getR t 10 23 q4.2).bind fun x8 =>
          (aldI x8 a1 q4.2).bind fun x9 =>
          (putI t 10 2 x9 q4.2).bind fun g10 =>
          some (1, g10)))))
set_option maxRecDepth 20000 in
theorem m_X9_time (z : Nat) (t : Option Nm) (a0 : Int32) (a1 : Int32) (a2 : Int32) (g : Hp) : FM yX9_time cX9_time 5 (some .int) 2 51 rtI [sR t, sI a0, sI a1, sI a2] g (f_X9_time z t a0 a1 a2 g) := by
  refine FM.entry (by decide +kernel) (Nat.le_of_ble_eq_true rfl) (fun X hX => ?_)
  unfold f_X9_time
  show J yX9_time cX9_time 5 (some .int) 2 51 X g 0 [(0, sR t), (1, sI a0), (2, sI a1), (3, sI a2)] [] _
  refine j_aload_n (pc := 0) 0 dX9_time_0 rfl rfl ?_
  refine j_iload_n (pc := 1) 1 dX9_time_1 rfl rfl ?_
  refine j_callV (pc := 2) (own := RX9) [sI a0] [] dX9_time_2 lc_X9_147 lv_X9_isQuake rfl (m_X9_isQuake z t a0 g) ⟨⟨Nat.le_of_ble_eq_true rfl, Nat.le_of_ble_eq_true rfl⟩, Nat.le_of_ble_eq_true rfl⟩ rfl rfl (fun q1r q1g => ?_)
  refine j_if_eq (pc := 5) (tgt := 15) dX9_time_5 (by decide) rfl (fun hc => ?_) (fun hc => ?_)
  · refine j_iconst (pc := 15) (v := (-1)) dX9_time_15 (by decide) ?_
    exact j_ireturn dX9_time_16 hX rfl rfl
  · refine j_iload_n (pc := 8) 2 dX9_time_8 rfl rfl ?_
    refine j_callS (pc := 9) (own := RX9) [sI a1] [] dX9_time_9 lc_X9_79 ls_X9_isCell rfl (m_X9_isCell z a1 q1g) ⟨⟨Nat.le_of_ble_eq_true rfl, Nat.le_of_ble_eq_true rfl⟩, Nat.le_of_ble_eq_true rfl⟩ rfl rfl (fun q2r q2g => ?_)
    refine j_if_ne (pc := 12) (tgt := 17) dX9_time_12 (by decide) rfl (fun hc => ?_) (fun hc => ?_)
    · refine j_aload_n (pc := 17) 0 dX9_time_17 rfl rfl ?_
      refine j_iload_n (pc := 18) 1 dX9_time_18 rfl rfl ?_
      refine j_callV (pc := 19) (own := RX9) [sI a0] [] dX9_time_19 lc_X9_122 lv_X9_setHeap rfl (m_X9_setHeap z t a0 q2g) ⟨⟨Nat.le_of_ble_eq_true rfl, Nat.le_of_ble_eq_true rfl⟩, Nat.le_of_ble_eq_true rfl⟩ rfl rfl (fun q3r q3g => ?_)
      refine j_istore (pc := 22) (lv' := [(4, sI q3r), (0, sR t), (1, sI a0), (2, sI a1), (3, sI a2)]) dX9_time_22 (by decide) rfl ?_
      refine j_aload_n (pc := 24) 1 dX9_time_24 rfl rfl ?_
      refine j_iload_n (pc := 25) 3 dX9_time_25 rfl rfl ?_
      refine j_callV (pc := 26) (own := RX9) [sI a1] [] dX9_time_26 lc_X9_137 lv_X9_has rfl (m_X9_has z t a1 q3g) ⟨⟨Nat.le_of_ble_eq_true rfl, Nat.le_of_ble_eq_true rfl⟩, Nat.le_of_ble_eq_true rfl⟩ rfl rfl (fun q4r q4g => ?_)
      refine j_if_ne (pc := 29) (tgt := 35) dX9_time_29 (by decide) rfl (fun hc => ?_) (fun hc => ?_)
      · refine j_aload_n (pc := 35) 1 dX9_time_35 rfl rfl ?_
        refine j_iload_n (pc := 36) 4 dX9_time_36 rfl rfl ?_
        refine j_if_eq (pc := 37) (tgt := 49) dX9_time_37 (by decide) rfl (fun hc => ?_) (fun hc => ?_)
        · refine j_aload_n (pc := 49) 1 dX9_time_49 rfl rfl ?_
          refine j_getR (pc := 50) (own := RX9) dX9_time_50 lf_X9_57 rfl rfl (fun x5 => ?_)
          refine j_iload_n (pc := 53) 3 dX9_time_53 rfl rfl ?_
          refine j_aldI (pc := 54) dX9_time_54 rfl (fun x6 => ?_)
          refine j_putI (pc := 55) (own := RX9) dX9_time_55 lf_X9_105 lt_10_2 lw_X9_105_X9_time rfl rfl (fun g7 => ?_)
          refine j_iconst (pc := 58) (v := 1) dX9_time_58 (by decide) ?_
          exact j_ireturn dX9_time_59 hX rfl rfl
        · refine j_aload_n (pc := 40) 1 dX9_time_40 rfl rfl ?_
          refine j_getR (pc := 41) (own := RX9) dX9_time_41 lf_X9_60 rfl rfl (fun x8 => ?_)
          refine j_iload_n (pc := 44) 3 dX9_time_44 rfl rfl ?_
          refine j_aldI (pc := 45) dX9_time_45 rfl (fun x9 => ?_)
          refine j_goto (pc := 46) (tgt := 55) dX9_time_46 (by decide) ?_
          refine j_putI (pc := 55) (own := RX9) dX9_time_55 lf_X9_105 lt_10_2 lw_X9_105_X9_time rfl rfl (fun g10 => ?_)
          refine j_iconst (pc := 58) (v := 1) dX9_time_58 (by decide) ?_
          exact j_ireturn dX9_time_59 hX rfl rfl
      · refine j_bipush (pc := 32) (v := (-9)) dX9_time_32 (by decide) ?_
        exact j_ireturn dX9_time_34 hX rfl rfl
    · refine j_iconst (pc := 15) (v := (-1)) dX9_time_15 (by decide) ?_
      exact j_ireturn dX9_time_16 hX rfl rfl
/-! X9_holds -/
noncomputable def f_X9_holds (z : Nat) (t : Option Nm) (a0 : Int32) (a1 : Int32) (a2 : Int32) (g : Hp) : Option (Int32 × Hp) :=
  (ick t 10 (f_X9_isQuake z t a0 g)).bind fun q1 =>
  if q1.1 = 0 then (some ((-1), q1.2))
  else ((f_X9_isCell z a1 q1.2).bind fun q2 =>
    if q2.1 = 0 then (some ((-1), q2.2))
    else ((ick t 10 (f_X9_setHeap z t a0 q2.2)).bind fun q3 =>
      if q3.1 ≤ 0 then (some (0, q3.2))
      else ((getR t 10 22 q3.2).bind fun x4 =>
        (aldI x4 a1 q3.2).bind fun x5 =>
        (getR t 10 23 q3.2).bind fun x6 =>
        (aldI x6 a1 q3.2).bind fun x7 =>
        (f_X9_in z a2 x5 x7 q3.2).bind fun q8 =>
        if q8.1 = 0 then (some (0, q8.2))
        else (some (1, q8.2)))))
set_option maxRecDepth 20000 in
theorem m_X9_holds (z : Nat) (t : Option Nm) (a0 : Int32) (a1 : Int32) (a2 : Int32) (g : Hp) : FM yX9_holds cX9_holds 5 (some .int) 2 51 rtI [sR t, sI a0, sI a1, sI a2] g (f_X9_holds z t a0 a1 a2 g) := by
  refine FM.entry (by decide +kernel) (Nat.le_of_ble_eq_true rfl) (fun X hX => ?_)
  unfold f_X9_holds
  show J yX9_holds cX9_holds 5 (some .int) 2 51 X g 0 [(0, sR t), (1, sI a0), (2, sI a1), (3, sI a2)] [] _
  refine j_aload_n (pc := 0) 0 dX9_holds_0 rfl rfl ?_
  refine j_iload_n (pc := 1) 1 dX9_holds_1 rfl rfl ?_
  refine j_callV (pc := 2) (own := RX9) [sI a0] [] dX9_holds_2 lc_X9_147 lv_X9_isQuake rfl (m_X9_isQuake z t a0 g) ⟨⟨Nat.le_of_ble_eq_true rfl, Nat.le_of_ble_eq_true rfl⟩, Nat.le_of_ble_eq_true rfl⟩ rfl rfl (fun q1r q1g => ?_)
  refine j_if_eq (pc := 5) (tgt := 15) dX9_holds_5 (by decide) rfl (fun hc => ?_) (fun hc => ?_)
  · refine j_iconst (pc := 15) (v := (-1)) dX9_holds_15 (by decide) ?_
    exact j_ireturn dX9_holds_16 hX rfl rfl
  · refine j_iload_n (pc := 8) 2 dX9_holds_8 rfl rfl ?_
    refine j_callS (pc := 9) (own := RX9) [sI a1] [] dX9_holds_9 lc_X9_79 ls_X9_isCell rfl (m_X9_isCell z a1 q1g) ⟨⟨Nat.le_of_ble_eq_true rfl, Nat.le_of_ble_eq_true rfl⟩, Nat.le_of_ble_eq_true rfl⟩ rfl rfl (fun q2r q2g => ?_)
    refine j_if_ne (pc := 12) (tgt := 17) dX9_holds_12 (by decide) rfl (fun hc => ?_) (fun hc => ?_)
    · refine j_aload_n (pc := 17) 0 dX9_holds_17 rfl rfl ?_
      refine j_iload_n (pc := 18) 1 dX9_holds_18 rfl rfl ?_
      refine j_callV (pc := 19) (own := RX9) [sI a0] [] dX9_holds_19 lc_X9_122 lv_X9_setHeap rfl (m_X9_setHeap z t a0 q2g) ⟨⟨Nat.le_of_ble_eq_true rfl, Nat.le_of_ble_eq_true rfl⟩, Nat.le_of_ble_eq_true rfl⟩ rfl rfl (fun q3r q3g => ?_)
      refine j_istore (pc := 22) (lv' := [(4, sI q3r), (0, sR t), (1, sI a0), (2, sI a1), (3, sI a2)]) dX9_holds_22 (by decide) rfl ?_
      refine j_iload (pc := 24) 0 dX9_holds_24 rfl ?_
      refine j_if_le (pc := 26) (tgt := 52) dX9_holds_26 (by decide) rfl (fun hc => ?_) (fun hc => ?_)
      · refine j_iconst (pc := 52) (v := 0) dX9_holds_52 (by decide) ?_
        exact j_ireturn dX9_holds_53 hX rfl rfl
      · refine j_iload_n (pc := 29) 4 dX9_holds_29 rfl rfl ?_
        refine j_aload_n (pc := 30) 1 dX9_holds_30 rfl rfl ?_
        refine j_getR (pc := 31) (own := RX9) dX9_holds_31 lf_X9_57 rfl rfl (fun x4 => ?_)
        refine j_iload_n (pc := 34) 3 dX9_holds_34 rfl rfl ?_
        refine j_aldI (pc := 35) dX9_holds_35 rfl (fun x5 => ?_)
        refine j_aload_n (pc := 36) 1 dX9_holds_36 rfl rfl ?_
        refine j_getR (pc := 37) (own := RX9) dX9_holds_37 lf_X9_60 rfl rfl (fun x6 => ?_)
        refine j_iload_n (pc := 40) 3 dX9_holds_40 rfl rfl ?_
        refine j_aldI (pc := 41) dX9_holds_41 rfl (fun x7 => ?_)
        refine j_callS (pc := 42) (own := RX9) [sI a2, sI x5, sI x7] [] dX9_holds_42 lc_X9_72 ls_X9_in rfl (m_X9_in z a2 x5 x7 q3g) ⟨⟨Nat.le_of_ble_eq_true rfl, Nat.le_of_ble_eq_true rfl⟩, Nat.le_of_ble_eq_true rfl⟩ rfl rfl (fun q8r q8g => ?_)
        refine j_if_eq (pc := 45) (tgt := 52) dX9_holds_45 (by decide) rfl (fun hc => ?_) (fun hc => ?_)
        · refine j_iconst (pc := 52) (v := 0) dX9_holds_52 (by decide) ?_
          exact j_ireturn dX9_holds_53 hX rfl rfl
        · refine j_iconst (pc := 48) (v := 1) dX9_holds_48 (by decide) ?_
          refine j_goto (pc := 49) (tgt := 53) dX9_holds_49 (by decide) ?_
          exact j_ireturn dX9_holds_53 hX rfl rfl
    · refine j_iconst (pc := 15) (v := (-1)) dX9_holds_15 (by decide) ?_
      exact j_ireturn dX9_holds_16 hX rfl rfl
/-! X9_feels -/
noncomputable def f_X9_feels_13_b (z : Nat) (p3 : Int32) (p0 : Option Nm) (p1 : Int32) (p2 : Int32) (rec : Int32 → Int32 → Hp → Option (Int32 × Int32 × Hp)) (v5 : Int32) (v4 : Int32) (g : Hp) : Option (Int32 × Int32 × Hp) :=
  if 144 ≤ v5 then (some (v5, v4, g))
  else ((ick p0 10 (f_X9_has z p0 v5 g)).bind fun q2 =>
    ((if q2.1 = 0 then (some (0, q2.2))
      else ((getR p0 10 10 q2.2).bind fun x3 =>
        (aldI x3 p1 q2.2).bind fun x4 =>
        (ick p0 10 (f_X9_travels z p0 v5 x4 q2.2)).bind fun q5 =>
        (f_X9_bits z (q5.1 + 1) q5.2).bind fun q6 =>
        some (q6.1, q6.2))) : Option (Int32 × Hp)).bind fun q7 =>
    if q7.1 ≤ v4 then (rec (v5 + 1) v4 q7.2)
    else (rec (v5 + 1) q7.1 q7.2))
noncomputable def f_X9_feels_13_L (z : Nat) (p3 : Int32) (p0 : Option Nm) (p1 : Int32) (p2 : Int32) : Nat → Int32 → Int32 → Hp → Option (Int32 × Int32 × Hp)
  | 0, _, _, _ => none
  | n + 1, v5, v4, g => f_X9_feels_13_b z p3 p0 p1 p2 (f_X9_feels_13_L z p3 p0 p1 p2 n) v5 v4 g
noncomputable def f_X9_feels (z : Nat) (t : Option Nm) (a0 : Int32) (a1 : Int32) (g : Hp) : Option (Int32 × Hp) :=
  (ick t 10 (f_X9_sizeOf z t a1 0 g)).bind fun q1 =>
  (f_X9_feels_13_L z q1.1 t a0 a1 z 0 0 q1.2).bind fun q8 =>
  if 0 ≤ q1.1 then (if q1.1 ≤ q8.2.1 then (some (0, q8.2.2))
    else (some ((q1.1 - q8.2.1), q8.2.2)))
  else (some ((-9), q8.2.2))
set_option maxRecDepth 20000 in
theorem b_X9_feels_13 {X : Xt Int32} (hX : IsM rtI X) (z : Nat) (p3 : Int32) (p0 : Option Nm) (p1 : Int32) (p2 : Int32) (rec : Int32 → Int32 → Hp → Option (Int32 × Int32 × Hp)) (K : Int32 × Int32 × Hp → Option (Int32 × Hp)) (he : ∀ (v5 : Int32) (v4 : Int32) (g : Hp), J yX9_feels cX9_feels 7 (some .int) 3 74 X g 75 [(5, sI v5), (4, sI v4), (3, sI p3), (0, sR p0), (1, sI p1), (2, sI p2)] [] (K (v5, v4, g))) (hr : ∀ (v5 : Int32) (v4 : Int32) (g : Hp), J yX9_feels cX9_feels 7 (some .int) 3 74 X g 13 [(5, sI v5), (4, sI v4), (3, sI p3), (0, sR p0), (1, sI p1), (2, sI p2)] [] ((rec v5 v4 g).bind K)) (v5 : Int32) (v4 : Int32) (g : Hp) : J yX9_feels cX9_feels 7 (some .int) 3 74 X g 13 [(5, sI v5), (4, sI v4), (3, sI p3), (0, sR p0), (1, sI p1), (2, sI p2)] [] ((f_X9_feels_13_b z p3 p0 p1 p2 rec v5 v4 g).bind K) := by
  unfold f_X9_feels_13_b
  refine j_iload (pc := 13) 0 dX9_feels_13 rfl ?_
  refine j_sipush (pc := 15) (v := 144) dX9_feels_15 (by decide) ?_
  refine j_icmp_ge (pc := 18) (tgt := 75) dX9_feels_18 (by decide) bi (fun hc => ?_) (fun hc => ?_)
  · exact he v5 v4 g
  · refine j_aload_n (pc := 21) 3 dX9_feels_21 rfl rfl ?_
    refine j_iload (pc := 22) 0 dX9_feels_22 rfl ?_
    refine j_callV (pc := 24) (own := RX9) [sI v5] [] dX9_feels_24 lc_X9_137 lv_X9_has rfl (m_X9_has z p0 v5 g) ⟨⟨Nat.le_of_ble_eq_true rfl, Nat.le_of_ble_eq_true rfl⟩, Nat.le_of_ble_eq_true rfl⟩ rfl bb (fun q2r q2g => ?_)
    refine J.eq bb ?_
    refine J.jn (σ := Int32 × Hp) (fun q7 pr => J yX9_feels cX9_feels 7 (some .int) 3 74 X q7.2 51 [(5, sI v5), (4, sI v4), (3, sI p3), (0, sR p0), (1, sI p1), (2, sI p2)] [sI q7.1] pr) (fun K51 hK51 => ?_) (fun q7 => ?_)
    · refine j_if_eq (pc := 27) (tgt := 50) dX9_feels_27 (by decide) bi (fun hc => ?_) (fun hc => ?_)
      · refine j_iconst (pc := 50) (v := 0) dX9_feels_50 (by decide) ?_
        exact hK51 (0, q2g)
      · refine j_aload_n (pc := 30) 3 dX9_feels_30 rfl rfl ?_
        refine j_iload (pc := 31) 0 dX9_feels_31 rfl ?_
        refine j_aload_n (pc := 33) 3 dX9_feels_33 rfl rfl ?_
        refine j_getR (pc := 34) (own := RX9) dX9_feels_34 lf_X9_27 rfl bb (fun x3 => ?_)
        refine j_iload_n (pc := 37) 4 dX9_feels_37 rfl rfl ?_
        refine j_aldI (pc := 38) dX9_feels_38 bb (fun x4 => ?_)
        refine j_callV (pc := 39) (own := RX9) [sI v5, sI x4] [] dX9_feels_39 lc_X9_92 lv_X9_travels rfl (m_X9_travels z p0 v5 x4 q2g) ⟨⟨Nat.le_of_ble_eq_true rfl, Nat.le_of_ble_eq_true rfl⟩, Nat.le_of_ble_eq_true rfl⟩ rfl bb (fun q5r q5g => ?_)
        refine j_iconst (pc := 42) (v := 1) dX9_feels_42 (by decide) ?_
        refine j_iadd (pc := 43) dX9_feels_43 ?_
        refine j_callS (pc := 44) (own := RX9) [sI (q5r + 1)] [] dX9_feels_44 lc_X9_134 ls_X9_bits rfl (m_X9_bits z (q5r + 1) q5g) ⟨⟨Nat.le_of_ble_eq_true rfl, Nat.le_of_ble_eq_true rfl⟩, Nat.le_of_ble_eq_true rfl⟩ rfl bb (fun q6r q6g => ?_)
        refine j_goto (pc := 47) (tgt := 51) dX9_feels_47 (by decide) ?_
        exact hK51 (q6r, q6g)
    · refine j_istore (pc := 51) (lv' := [(6, sI q7.1), (5, sI v5), (4, sI v4), (3, sI p3), (0, sR p0), (1, sI p1), (2, sI p2)]) dX9_feels_51 (by decide) rfl ?_
      refine j_iload (pc := 53) 0 dX9_feels_53 rfl ?_
      refine j_iload (pc := 55) 2 dX9_feels_55 rfl ?_
      refine j_icmp_le (pc := 57) (tgt := 65) dX9_feels_57 (by decide) bi (fun hc => ?_) (fun hc => ?_)
      · refine j_iload (pc := 65) 2 dX9_feels_65 rfl ?_
        refine j_istore (pc := 67) (lv' := [(4, sI v4), (6, sI q7.1), (5, sI v5), (3, sI p3), (0, sR p0), (1, sI p1), (2, sI p2)]) dX9_feels_67 (by decide) rfl ?_
        refine j_iinc (pc := 69) (v := (v5 + 1)) (lv' := [(5, sI (v5 + 1)), (4, sI v4), (6, sI q7.1), (3, sI p3), (0, sR p0), (1, sI p1), (2, sI p2)]) 2 dX9_feels_69 rfl rfl (by decide) rfl ?_
        refine j_goto (pc := 72) (tgt := 13) dX9_feels_72 (by decide) ?_
        refine J.sub [0, 1, 3, 4, 5, 6] rfl ?_
        exact hr (v5 + 1) v4 q7.2
      · refine j_iload (pc := 60) 0 dX9_feels_60 rfl ?_
        refine j_goto (pc := 62) (tgt := 67) dX9_feels_62 (by decide) ?_
        refine j_istore (pc := 67) (lv' := [(4, sI q7.1), (6, sI q7.1), (5, sI v5), (3, sI p3), (0, sR p0), (1, sI p1), (2, sI p2)]) dX9_feels_67 (by decide) rfl ?_
        refine j_iinc (pc := 69) (v := (v5 + 1)) (lv' := [(5, sI (v5 + 1)), (4, sI q7.1), (6, sI q7.1), (3, sI p3), (0, sR p0), (1, sI p1), (2, sI p2)]) 2 dX9_feels_69 rfl rfl (by decide) rfl ?_
        refine j_goto (pc := 72) (tgt := 13) dX9_feels_72 (by decide) ?_
        refine J.sub [0, 1, 3, 4, 5, 6] rfl ?_
        exact hr (v5 + 1) q7.1 q7.2
set_option maxRecDepth 20000 in
theorem l_X9_feels_13 {X : Xt Int32} (hX : IsM rtI X) (z : Nat) (p3 : Int32) (p0 : Option Nm) (p1 : Int32) (p2 : Int32) (K : Int32 × Int32 × Hp → Option (Int32 × Hp)) (he : ∀ (v5 : Int32) (v4 : Int32) (g : Hp), J yX9_feels cX9_feels 7 (some .int) 3 74 X g 75 [(5, sI v5), (4, sI v4), (3, sI p3), (0, sR p0), (1, sI p1), (2, sI p2)] [] (K (v5, v4, g))) : ∀ (n : Nat) (v5 : Int32) (v4 : Int32) (g : Hp), J yX9_feels cX9_feels 7 (some .int) 3 74 X g 13 [(5, sI v5), (4, sI v4), (3, sI p3), (0, sR p0), (1, sI p1), (2, sI p2)] [] ((f_X9_feels_13_L z p3 p0 p1 p2 n v5 v4 g).bind K)
  | 0, _, _, _ => J.eq rfl J.none
  | n + 1, v5, v4, g => b_X9_feels_13 hX z p3 p0 p1 p2 _ K he (fun v5 v4 g => l_X9_feels_13 hX z p3 p0 p1 p2 K he n v5 v4 g) v5 v4 g
set_option maxRecDepth 20000 in
theorem m_X9_feels (z : Nat) (t : Option Nm) (a0 : Int32) (a1 : Int32) (g : Hp) : FM yX9_feels cX9_feels 7 (some .int) 3 74 rtI [sR t, sI a0, sI a1] g (f_X9_feels z t a0 a1 g) := by
  refine FM.entry (by decide +kernel) (Nat.le_of_ble_eq_true rfl) (fun X hX => ?_)
  unfold f_X9_feels
  show J yX9_feels cX9_feels 7 (some .int) 3 74 X g 0 [(0, sR t), (1, sI a0), (2, sI a1)] [] _
  refine j_aload_n (pc := 0) 0 dX9_feels_0 rfl rfl ?_
  refine j_iload_n (pc := 1) 2 dX9_feels_1 rfl rfl ?_
  refine j_iconst (pc := 2) (v := 0) dX9_feels_2 (by decide) ?_
  refine j_callV (pc := 3) (own := RX9) [sI a1, sI 0] [] dX9_feels_3 lc_X9_143 lv_X9_sizeOf rfl (m_X9_sizeOf z t a1 0 g) ⟨⟨Nat.le_of_ble_eq_true rfl, Nat.le_of_ble_eq_true rfl⟩, Nat.le_of_ble_eq_true rfl⟩ rfl rfl (fun q1r q1g => ?_)
  refine j_istore_n (pc := 6) (lv' := [(3, sI q1r), (0, sR t), (1, sI a0), (2, sI a1)]) dX9_feels_6 rfl (by decide) rfl ?_
  refine j_iconst (pc := 7) (v := 0) dX9_feels_7 (by decide) ?_
  refine j_istore (pc := 8) (lv' := [(4, sI 0), (3, sI q1r), (0, sR t), (1, sI a0), (2, sI a1)]) dX9_feels_8 (by decide) rfl ?_
  refine j_iconst (pc := 10) (v := 0) dX9_feels_10 (by decide) ?_
  refine j_istore (pc := 11) (lv' := [(5, sI 0), (4, sI 0), (3, sI q1r), (0, sR t), (1, sI a0), (2, sI a1)]) dX9_feels_11 (by decide) rfl ?_
  refine l_X9_feels_13 hX z q1r t a0 a1 _ (fun q8_0 q8_1 q8_g => ?_) z 0 0 q1g
  refine j_iload_n (pc := 75) 2 dX9_feels_75 rfl rfl ?_
  refine j_if_ge (pc := 76) (tgt := 84) dX9_feels_76 (by decide) rfl (fun hc => ?_) (fun hc => ?_)
  · refine j_iload_n (pc := 84) 2 dX9_feels_84 rfl rfl ?_
    refine j_iload (pc := 85) 1 dX9_feels_85 rfl ?_
    refine j_icmp_le (pc := 87) (tgt := 97) dX9_feels_87 (by decide) rfl (fun hc => ?_) (fun hc => ?_)
    · refine j_iconst (pc := 97) (v := 0) dX9_feels_97 (by decide) ?_
      exact j_ireturn dX9_feels_98 hX rfl rfl
    · refine j_iload_n (pc := 90) 2 dX9_feels_90 rfl rfl ?_
      refine j_iload (pc := 91) 1 dX9_feels_91 rfl ?_
      refine j_isub (pc := 93) dX9_feels_93 ?_
      refine j_goto (pc := 94) (tgt := 98) dX9_feels_94 (by decide) ?_
      exact j_ireturn dX9_feels_98 hX rfl rfl
  · refine j_bipush (pc := 79) (v := (-9)) dX9_feels_79 (by decide) ?_
    refine j_goto (pc := 81) (tgt := 98) dX9_feels_81 (by decide) ?_
    exact j_ireturn dX9_feels_98 hX rfl rfl
/-! X9_areTownAndQuake -/
noncomputable def f_X9_areTownAndQuake (z : Nat) (t : Option Nm) (a0 : Int32) (a1 : Int32) (g : Hp) : Option (Int32 × Hp) :=
  (ick t 10 (f_X9_isTown z t a0 g)).bind fun q1 =>
  if q1.1 = 0 then (rtZ 0 q1.2)
  else ((ick t 10 (f_X9_isQuake z t a1 q1.2)).bind fun q2 =>
    if q2.1 = 0 then (rtZ 0 q2.2)
    else (rtZ 1 q2.2))
set_option maxRecDepth 20000 in
theorem m_X9_areTownAndQuake (z : Nat) (t : Option Nm) (a0 : Int32) (a1 : Int32) (g : Hp) : FM yX9_areTownAndQuake cX9_areTownAndQuake 3 (some .boolean) 2 43 rtI [sR t, sI a0, sI a1] g (f_X9_areTownAndQuake z t a0 a1 g) := by
  refine FM.entry (by decide +kernel) (Nat.le_of_ble_eq_true rfl) (fun X hX => ?_)
  unfold f_X9_areTownAndQuake
  show J yX9_areTownAndQuake cX9_areTownAndQuake 3 (some .boolean) 2 43 X g 0 [(0, sR t), (1, sI a0), (2, sI a1)] [] _
  refine j_aload_n (pc := 0) 0 dX9_areTownAndQuake_0 rfl rfl ?_
  refine j_iload_n (pc := 1) 1 dX9_areTownAndQuake_1 rfl rfl ?_
  refine j_callV (pc := 2) (own := RX9) [sI a0] [] dX9_areTownAndQuake_2 lc_X9_153 lv_X9_isTown rfl (m_X9_isTown z t a0 g) ⟨⟨Nat.le_of_ble_eq_true rfl, Nat.le_of_ble_eq_true rfl⟩, Nat.le_of_ble_eq_true rfl⟩ rfl rfl (fun q1r q1g => ?_)
  refine j_if_eq (pc := 5) (tgt := 20) dX9_areTownAndQuake_5 (by decide) rfl (fun hc => ?_) (fun hc => ?_)
  · refine j_iconst (pc := 20) (v := 0) dX9_areTownAndQuake_20 (by decide) ?_
    exact j_zreturn dX9_areTownAndQuake_21 hX rfl rfl
  · refine j_aload_n (pc := 8) 0 dX9_areTownAndQuake_8 rfl rfl ?_
    refine j_iload_n (pc := 9) 2 dX9_areTownAndQuake_9 rfl rfl ?_
    refine j_callV (pc := 10) (own := RX9) [sI a1] [] dX9_areTownAndQuake_10 lc_X9_147 lv_X9_isQuake rfl (m_X9_isQuake z t a1 q1g) ⟨⟨Nat.le_of_ble_eq_true rfl, Nat.le_of_ble_eq_true rfl⟩, Nat.le_of_ble_eq_true rfl⟩ rfl rfl (fun q2r q2g => ?_)
    refine j_if_eq (pc := 13) (tgt := 20) dX9_areTownAndQuake_13 (by decide) rfl (fun hc => ?_) (fun hc => ?_)
    · refine j_iconst (pc := 20) (v := 0) dX9_areTownAndQuake_20 (by decide) ?_
      exact j_zreturn dX9_areTownAndQuake_21 hX rfl rfl
    · refine j_iconst (pc := 16) (v := 1) dX9_areTownAndQuake_16 (by decide) ?_
      refine j_goto (pc := 17) (tgt := 21) dX9_areTownAndQuake_17 (by decide) ?_
      exact j_zreturn dX9_areTownAndQuake_21 hX rfl rfl
/-! X9_felt -/
noncomputable def f_X9_felt (z : Nat) (t : Option Nm) (a0 : Int32) (a1 : Int32) (g : Hp) : Option (Int32 × Hp) :=
  (ick t 10 (f_X9_areTownAndQuake z t a0 a1 g)).bind fun q1 =>
  if q1.1 = 0 then (some ((-1), q1.2))
  else ((ick t 10 (f_X9_setHeap z t a1 q1.2)).bind fun q2 =>
    (ick t 10 (f_X9_feels z t a0 a1 q2.2)).bind fun q3 =>
    some (q3.1, q3.2))
set_option maxRecDepth 20000 in
theorem m_X9_felt (z : Nat) (t : Option Nm) (a0 : Int32) (a1 : Int32) (g : Hp) : FM yX9_felt cX9_felt 4 (some .int) 4 100 rtI [sR t, sI a0, sI a1] g (f_X9_felt z t a0 a1 g) := by
  refine FM.entry (by decide +kernel) (Nat.le_of_ble_eq_true rfl) (fun X hX => ?_)
  unfold f_X9_felt
  show J yX9_felt cX9_felt 4 (some .int) 4 100 X g 0 [(0, sR t), (1, sI a0), (2, sI a1)] [] _
  refine j_aload_n (pc := 0) 0 dX9_felt_0 rfl rfl ?_
  refine j_iload_n (pc := 1) 1 dX9_felt_1 rfl rfl ?_
  refine j_iload_n (pc := 2) 2 dX9_felt_2 rfl rfl ?_
  refine j_callV (pc := 3) (own := RX9) [sI a0, sI a1] [] dX9_felt_3 lc_X9_156 lv_X9_areTownAndQuake rfl (m_X9_areTownAndQuake z t a0 a1 g) ⟨⟨Nat.le_of_ble_eq_true rfl, Nat.le_of_ble_eq_true rfl⟩, Nat.le_of_ble_eq_true rfl⟩ rfl rfl (fun q1r q1g => ?_)
  refine j_if_ne (pc := 6) (tgt := 11) dX9_felt_6 (by decide) rfl (fun hc => ?_) (fun hc => ?_)
  · refine j_aload_n (pc := 11) 0 dX9_felt_11 rfl rfl ?_
    refine j_iload_n (pc := 12) 2 dX9_felt_12 rfl rfl ?_
    refine j_callV (pc := 13) (own := RX9) [sI a1] [] dX9_felt_13 lc_X9_122 lv_X9_setHeap rfl (m_X9_setHeap z t a1 q1g) ⟨⟨Nat.le_of_ble_eq_true rfl, Nat.le_of_ble_eq_true rfl⟩, Nat.le_of_ble_eq_true rfl⟩ rfl rfl (fun q2r q2g => ?_)
    refine j_istore_n (pc := 16) (lv' := [(3, sI q2r), (0, sR t), (1, sI a0), (2, sI a1)]) dX9_felt_16 rfl (by decide) rfl ?_
    refine j_aload_n (pc := 17) 1 dX9_felt_17 rfl rfl ?_
    refine j_iload_n (pc := 18) 2 dX9_felt_18 rfl rfl ?_
    refine j_iload_n (pc := 19) 3 dX9_felt_19 rfl rfl ?_
    refine j_callV (pc := 20) (own := RX9) [sI a0, sI a1] [] dX9_felt_20 lc_X9_159 lv_X9_feels rfl (m_X9_feels z t a0 a1 q2g) ⟨⟨Nat.le_of_ble_eq_true rfl, Nat.le_of_ble_eq_true rfl⟩, Nat.le_of_ble_eq_true rfl⟩ rfl rfl (fun q3r q3g => ?_)
    exact j_ireturn dX9_felt_23 hX rfl rfl
  · refine j_iconst (pc := 9) (v := (-1)) dX9_felt_9 (by decide) ?_
    exact j_ireturn dX9_felt_10 hX rfl rfl
/-! X9_level -/
noncomputable def f_X9_level (z : Nat) (t : Option Nm) (a0 : Int32) (a1 : Int32) (g : Hp) : Option (Int32 × Hp) :=
  (f_X9_in z a0 1 4 g).bind fun q1 =>
  if q1.1 = 0 then (some ((-1), q1.2))
  else ((getR t 10 13 q1.2).bind fun x2 =>
    (aldI x2 (a0 - 1) q1.2).bind fun x3 =>
    if a1 ≤ x3 then (some ((-1), q1.2))
    else ((getR t 10 13 q1.2).bind fun x4 =>
      (aldI x4 (a0 + 1) q1.2).bind fun x5 =>
      if a1 < x5 then ((getR t 10 13 q1.2).bind fun x6 =>
        (aldI x6 a0 q1.2).bind fun x7 =>
        (getR t 10 13 q1.2).bind fun x8 =>
        (astI x8 a0 a1 q1.2).bind fun g9 =>
        some (x7, g9))
      else (some ((-1), q1.2))))
set_option maxRecDepth 20000 in
theorem m_X9_level (z : Nat) (t : Option Nm) (a0 : Int32) (a1 : Int32) (g : Hp) : FM yX9_level cX9_level 4 (some .int) 1 22 rtI [sR t, sI a0, sI a1] g (f_X9_level z t a0 a1 g) := by
  refine FM.entry (by decide +kernel) (Nat.le_of_ble_eq_true rfl) (fun X hX => ?_)
  unfold f_X9_level
  show J yX9_level cX9_level 4 (some .int) 1 22 X g 0 [(0, sR t), (1, sI a0), (2, sI a1)] [] _
  refine j_iload_n (pc := 0) 1 dX9_level_0 rfl rfl ?_
  refine j_iconst (pc := 1) (v := 1) dX9_level_1 (by decide) ?_
  refine j_iconst (pc := 2) (v := 4) dX9_level_2 (by decide) ?_
  refine j_callS (pc := 3) (own := RX9) [sI a0, sI 1, sI 4] [] dX9_level_3 lc_X9_72 ls_X9_in rfl (m_X9_in z a0 1 4 g) ⟨⟨Nat.le_of_ble_eq_true rfl, Nat.le_of_ble_eq_true rfl⟩, Nat.le_of_ble_eq_true rfl⟩ rfl rfl (fun q1r q1g => ?_)
  refine j_if_eq (pc := 6) (tgt := 33) dX9_level_6 (by decide) rfl (fun hc => ?_) (fun hc => ?_)
  · refine j_iconst (pc := 33) (v := (-1)) dX9_level_33 (by decide) ?_
    exact j_ireturn dX9_level_34 hX rfl rfl
  · refine j_iload_n (pc := 9) 2 dX9_level_9 rfl rfl ?_
    refine j_aload_n (pc := 10) 0 dX9_level_10 rfl rfl ?_
    refine j_getR (pc := 11) (own := RX9) dX9_level_11 lf_X9_36 rfl rfl (fun x2 => ?_)
    refine j_iload_n (pc := 14) 1 dX9_level_14 rfl rfl ?_
    refine j_iconst (pc := 15) (v := 1) dX9_level_15 (by decide) ?_
    refine j_isub (pc := 16) dX9_level_16 ?_
    refine j_aldI (pc := 17) dX9_level_17 rfl (fun x3 => ?_)
    refine j_icmp_le (pc := 18) (tgt := 33) dX9_level_18 (by decide) rfl (fun hc => ?_) (fun hc => ?_)
    · refine j_iconst (pc := 33) (v := (-1)) dX9_level_33 (by decide) ?_
      exact j_ireturn dX9_level_34 hX rfl rfl
    · refine j_iload_n (pc := 21) 2 dX9_level_21 rfl rfl ?_
      refine j_aload_n (pc := 22) 0 dX9_level_22 rfl rfl ?_
      refine j_getR (pc := 23) (own := RX9) dX9_level_23 lf_X9_36 rfl rfl (fun x4 => ?_)
      refine j_iload_n (pc := 26) 1 dX9_level_26 rfl rfl ?_
      refine j_iconst (pc := 27) (v := 1) dX9_level_27 (by decide) ?_
      refine j_iadd (pc := 28) dX9_level_28 ?_
      refine j_aldI (pc := 29) dX9_level_29 rfl (fun x5 => ?_)
      refine j_icmp_lt (pc := 30) (tgt := 35) dX9_level_30 (by decide) rfl (fun hc => ?_) (fun hc => ?_)
      · refine j_aload_n (pc := 35) 0 dX9_level_35 rfl rfl ?_
        refine j_getR (pc := 36) (own := RX9) dX9_level_36 lf_X9_36 rfl rfl (fun x6 => ?_)
        refine j_iload_n (pc := 39) 1 dX9_level_39 rfl rfl ?_
        refine j_aldI (pc := 40) dX9_level_40 rfl (fun x7 => ?_)
        refine j_istore_n (pc := 41) (lv' := [(3, sI x7), (0, sR t), (1, sI a0), (2, sI a1)]) dX9_level_41 rfl (by decide) rfl ?_
        refine j_aload_n (pc := 42) 1 dX9_level_42 rfl rfl ?_
        refine j_getR (pc := 43) (own := RX9) dX9_level_43 lf_X9_36 rfl rfl (fun x8 => ?_)
        refine j_iload_n (pc := 46) 2 dX9_level_46 rfl rfl ?_
        refine j_iload_n (pc := 47) 3 dX9_level_47 rfl rfl ?_
        refine j_astI (pc := 48) dX9_level_48 rfl (fun g9 => ?_)
        refine j_iload_n (pc := 49) 0 dX9_level_49 rfl rfl ?_
        exact j_ireturn dX9_level_50 hX rfl rfl
      · refine j_iconst (pc := 33) (v := (-1)) dX9_level_33 (by decide) ?_
        exact j_ireturn dX9_level_34 hX rfl rfl
/-! X9_say -/
noncomputable def f_X9_say (z : Nat) (t : Option Nm) (a0 : Int32) (a1 : Int32) (a2 : Int32) (g : Hp) : Option (Unit × Hp) :=
  (getI t 10 24 g).bind fun x1 =>
  ((if 400 ≤ x1 then (some (g))
    else ((getR t 10 25 g).bind fun x2 =>
      (getI t 10 24 g).bind fun x3 =>
      (astI x2 (4 * x3) a0 g).bind fun g4 =>
      (getR t 10 25 g4).bind fun x5 =>
      (getI t 10 24 g4).bind fun x6 =>
      (astI x5 ((4 * x6) + 1) a1 g4).bind fun g7 =>
      (getR t 10 25 g7).bind fun x8 =>
      (getI t 10 24 g7).bind fun x9 =>
      (astI x8 ((4 * x9) + 2) a2 g7).bind fun g10 =>
      (getR t 10 25 g10).bind fun x11 =>
      (getI t 10 24 g10).bind fun x12 =>
      (getI t 10 5 g10).bind fun x13 =>
      (astI x11 ((4 * x12) + 3) x13 g10).bind fun g14 =>
      some (g14))) : Option (Hp)).bind fun q15 =>
  (getI t 10 24 q15).bind fun x16 =>
  (putI t 10 24 (x16 + 1) q15).bind fun g17 =>
  some ((), g17)
set_option maxRecDepth 20000 in
theorem m_X9_say (z : Nat) (t : Option Nm) (a0 : Int32) (a1 : Int32) (a2 : Int32) (g : Hp) : FM yX9_say cX9_say 4 none 0 0 rtV [sR t, sI a0, sI a1, sI a2] g (f_X9_say z t a0 a1 a2 g) := by
  refine FM.entry (by decide +kernel) (Nat.le_of_ble_eq_true rfl) (fun X hX => ?_)
  unfold f_X9_say
  show J yX9_say cX9_say 4 none 0 0 X g 0 [(0, sR t), (1, sI a0), (2, sI a1), (3, sI a2)] [] _
  refine j_aload_n (pc := 0) 0 dX9_say_0 rfl rfl ?_
  refine j_getI (pc := 1) (own := RX9) dX9_say_1 lf_X9_162 rfl rfl (fun x1 => ?_)
  refine j_sipush (pc := 4) (v := 400) dX9_say_4 (by decide) ?_
  refine J.jn (σ := Hp) (fun q15 pr => J yX9_say cX9_say 4 none 0 0 X q15 67 [(0, sR t), (1, sI a0), (2, sI a1), (3, sI a2)] [] pr) (fun K67 hK67 => ?_) (fun q15 => ?_)
  · refine j_icmp_ge (pc := 7) (tgt := 67) dX9_say_7 (by decide) bi (fun hc => ?_) (fun hc => ?_)
    · exact hK67 (g)
    · refine j_aload_n (pc := 10) 0 dX9_say_10 rfl rfl ?_
      refine j_getR (pc := 11) (own := RX9) dX9_say_11 lf_X9_63 rfl bb (fun x2 => ?_)
      refine j_iconst (pc := 14) (v := 4) dX9_say_14 (by decide) ?_
      refine j_aload_n (pc := 15) 0 dX9_say_15 rfl rfl ?_
      refine j_getI (pc := 16) (own := RX9) dX9_say_16 lf_X9_162 rfl bb (fun x3 => ?_)
      refine j_imul (pc := 19) dX9_say_19 ?_
      refine j_iload_n (pc := 20) 1 dX9_say_20 rfl rfl ?_
      refine j_astI (pc := 21) dX9_say_21 bb (fun g4 => ?_)
      refine j_aload_n (pc := 22) 0 dX9_say_22 rfl rfl ?_
      refine j_getR (pc := 23) (own := RX9) dX9_say_23 lf_X9_63 rfl bb (fun x5 => ?_)
      refine j_iconst (pc := 26) (v := 4) dX9_say_26 (by decide) ?_
      refine j_aload_n (pc := 27) 0 dX9_say_27 rfl rfl ?_
      refine j_getI (pc := 28) (own := RX9) dX9_say_28 lf_X9_162 rfl bb (fun x6 => ?_)
      refine j_imul (pc := 31) dX9_say_31 ?_
      refine j_iconst (pc := 32) (v := 1) dX9_say_32 (by decide) ?_
      refine j_iadd (pc := 33) dX9_say_33 ?_
      refine j_iload_n (pc := 34) 2 dX9_say_34 rfl rfl ?_
      refine j_astI (pc := 35) dX9_say_35 bb (fun g7 => ?_)
      refine j_aload_n (pc := 36) 0 dX9_say_36 rfl rfl ?_
      refine j_getR (pc := 37) (own := RX9) dX9_say_37 lf_X9_63 rfl bb (fun x8 => ?_)
      refine j_iconst (pc := 40) (v := 4) dX9_say_40 (by decide) ?_
      refine j_aload_n (pc := 41) 0 dX9_say_41 rfl rfl ?_
      refine j_getI (pc := 42) (own := RX9) dX9_say_42 lf_X9_162 rfl bb (fun x9 => ?_)
      refine j_imul (pc := 45) dX9_say_45 ?_
      refine j_iconst (pc := 46) (v := 2) dX9_say_46 (by decide) ?_
      refine j_iadd (pc := 47) dX9_say_47 ?_
      refine j_iload_n (pc := 48) 3 dX9_say_48 rfl rfl ?_
      refine j_astI (pc := 49) dX9_say_49 bb (fun g10 => ?_)
      refine j_aload_n (pc := 50) 0 dX9_say_50 rfl rfl ?_
      refine j_getR (pc := 51) (own := RX9) dX9_say_51 lf_X9_63 rfl bb (fun x11 => ?_)
      refine j_iconst (pc := 54) (v := 4) dX9_say_54 (by decide) ?_
      refine j_aload_n (pc := 55) 0 dX9_say_55 rfl rfl ?_
      refine j_getI (pc := 56) (own := RX9) dX9_say_56 lf_X9_162 rfl bb (fun x12 => ?_)
      refine j_imul (pc := 59) dX9_say_59 ?_
      refine j_iconst (pc := 60) (v := 3) dX9_say_60 (by decide) ?_
      refine j_iadd (pc := 61) dX9_say_61 ?_
      refine j_aload_n (pc := 62) 0 dX9_say_62 rfl rfl ?_
      refine j_getI (pc := 63) (own := RX9) dX9_say_63 lf_X9_97 rfl bb (fun x13 => ?_)
      refine j_astI (pc := 66) dX9_say_66 bb (fun g14 => ?_)
      exact hK67 (g14)
  · refine j_aload_n (pc := 67) 0 dX9_say_67 rfl rfl ?_
    refine j_dup (pc := 68) dX9_say_68 rfl ?_
    refine j_getI (pc := 69) (own := RX9) dX9_say_69 lf_X9_162 rfl rfl (fun x16 => ?_)
    refine j_iconst (pc := 72) (v := 1) dX9_say_72 (by decide) ?_
    refine j_iadd (pc := 73) dX9_say_73 ?_
    refine j_putI (pc := 74) (own := RX9) dX9_say_74 lf_X9_162 lt_10_24 lw_X9_162_X9_say rfl rfl (fun g17 => ?_)
    exact j_return dX9_say_77 hX rfl rfl
/-! X9_warn -/
noncomputable def f_X9_warn_58_b (z : Nat) (p5 : Int32) (p4 : Int32) (p3 : Int32) (p2 : Int32) (p0 : Option Nm) (rec : Int32 → Int32 → Hp → Option (Int32 × Int32 × Hp)) (v6 : Int32) (v1 : Int32) (g : Hp) : Option (Int32 × Int32 × Hp) :=
  if 5 ≤ v6 then (some (v6, v1, g))
  else (((if p3 = 0 then ((getR p0 10 13 g).bind fun x7 =>
        (aldI x7 v6 g).bind fun x8 =>
        if p5 < x8 then (some (0))
        else ((getR p0 10 26 g).bind fun x9 =>
          (aldI x9 (((30 * p2) + (5 * p4)) + v6) g).bind fun x10 =>
          if x10 = 0 then (some (1))
          else (some (0))))
      else (some (0))) : Option (Int32)).bind fun q11 =>
    ((if p3 = 0 then (some (0))
      else ((getR p0 10 26 g).bind fun x12 =>
        (aldI x12 (((30 * p2) + (5 * p4)) + v6) g).bind fun x13 =>
        if x13 = 1 then (some (1))
        else (some (0)))) : Option (Int32)).bind fun q14 =>
    if q11 = 0 then (if q14 = 0 then (rec (v6 + 1) v1 g)
      else (((if p3 = 0 then (some (v6))
          else (some ((0 - v6)))) : Option (Int32)).bind fun q20 =>
        (ick p0 10 (f_X9_say z p0 p4 p2 q20 g)).bind fun q21 =>
        (getR p0 10 26 q21.2).bind fun x22 =>
        (aldI x22 (((30 * p2) + (5 * p4)) + v6) q21.2).bind fun x23 =>
        (astI x22 (((30 * p2) + (5 * p4)) + v6) (x23 + 1) q21.2).bind fun g24 =>
        rec (v6 + 1) (v1 + 1) g24))
    else (((if p3 = 0 then (some (v6))
        else (some ((0 - v6)))) : Option (Int32)).bind fun q15 =>
      (ick p0 10 (f_X9_say z p0 p4 p2 q15 g)).bind fun q16 =>
      (getR p0 10 26 q16.2).bind fun x17 =>
      (aldI x17 (((30 * p2) + (5 * p4)) + v6) q16.2).bind fun x18 =>
      (astI x17 (((30 * p2) + (5 * p4)) + v6) (x18 + 1) q16.2).bind fun g19 =>
      rec (v6 + 1) (v1 + 1) g19))
noncomputable def f_X9_warn_58_L (z : Nat) (p5 : Int32) (p4 : Int32) (p3 : Int32) (p2 : Int32) (p0 : Option Nm) : Nat → Int32 → Int32 → Hp → Option (Int32 × Int32 × Hp)
  | 0, _, _, _ => none
  | n + 1, v6, v1, g => f_X9_warn_58_b z p5 p4 p3 p2 p0 (f_X9_warn_58_L z p5 p4 p3 p2 p0 n) v6 v1 g
noncomputable def f_X9_warn_29_b (z : Nat) (p3 : Int32) (p2 : Int32) (p0 : Option Nm) (rec : Int32 → Int32 → Hp → Option (Int32 × Int32 × Hp)) (v4 : Int32) (v1 : Int32) (g : Hp) : Option (Int32 × Int32 × Hp) :=
  (getI p0 10 9 g).bind fun x4 =>
  if x4 ≤ v4 then (some (v4, v1, g))
  else (((if p3 = 0 then ((ick p0 10 (f_X9_feels z p0 v4 p2 g)).bind fun q5 =>
        some (q5.1, q5.2))
      else (some (0, g))) : Option (Int32 × Hp)).bind fun q6 =>
    (f_X9_warn_58_L z q6.1 v4 p3 p2 p0 z 1 v1 q6.2).bind fun q25 =>
    rec (v4 + 1) q25.2.1 q25.2.2)
noncomputable def f_X9_warn_29_L (z : Nat) (p3 : Int32) (p2 : Int32) (p0 : Option Nm) : Nat → Int32 → Int32 → Hp → Option (Int32 × Int32 × Hp)
  | 0, _, _, _ => none
  | n + 1, v4, v1, g => f_X9_warn_29_b z p3 p2 p0 (f_X9_warn_29_L z p3 p2 p0 n) v4 v1 g
noncomputable def f_X9_warn_4_b (z : Nat) (p0 : Option Nm) (rec : Int32 → Int32 → Hp → Option (Int32 × Int32 × Hp)) (v2 : Int32) (v1 : Int32) (g : Hp) : Option (Int32 × Int32 × Hp) :=
  (getI p0 10 20 g).bind fun x1 =>
  if x1 ≤ v2 then (some (v2, v1, g))
  else ((ick p0 10 (f_X9_setHeap z p0 v2 g)).bind fun q2 =>
    ((if q2.1 = 0 then (some (1))
      else (some (0))) : Option (Int32)).bind fun q3 =>
    (f_X9_warn_29_L z q3 v2 p0 z 0 v1 q2.2).bind fun q26 =>
    rec (v2 + 1) q26.2.1 q26.2.2)
noncomputable def f_X9_warn_4_L (z : Nat) (p0 : Option Nm) : Nat → Int32 → Int32 → Hp → Option (Int32 × Int32 × Hp)
  | 0, _, _, _ => none
  | n + 1, v2, v1, g => f_X9_warn_4_b z p0 (f_X9_warn_4_L z p0 n) v2 v1 g
noncomputable def f_X9_warn (z : Nat) (t : Option Nm) (g : Hp) : Option (Int32 × Hp) :=
  (f_X9_warn_4_L z t z 0 0 g).bind fun q27 =>
  some (q27.2.1, q27.2.2)
set_option maxRecDepth 20000 in
theorem b_X9_warn_58 {X : Xt Int32} (hX : IsM rtI X) (z : Nat) (p5 : Int32) (p4 : Int32) (p3 : Int32) (p2 : Int32) (p0 : Option Nm) (rec : Int32 → Int32 → Hp → Option (Int32 × Int32 × Hp)) (K : Int32 × Int32 × Hp → Option (Int32 × Hp)) (he : ∀ (v6 : Int32) (v1 : Int32) (g : Hp), J yX9_warn cX9_warn 10 (some .int) 4 100 X g 182 [(6, sI v6), (5, sI p5), (4, sI p4), (3, sI p3), (2, sI p2), (1, sI v1), (0, sR p0)] [] (K (v6, v1, g))) (hr : ∀ (v6 : Int32) (v1 : Int32) (g : Hp), J yX9_warn cX9_warn 10 (some .int) 4 100 X g 58 [(6, sI v6), (5, sI p5), (4, sI p4), (3, sI p3), (2, sI p2), (1, sI v1), (0, sR p0)] [] ((rec v6 v1 g).bind K)) (v6 : Int32) (v1 : Int32) (g : Hp) : J yX9_warn cX9_warn 10 (some .int) 4 100 X g 58 [(6, sI v6), (5, sI p5), (4, sI p4), (3, sI p3), (2, sI p2), (1, sI v1), (0, sR p0)] [] ((f_X9_warn_58_b z p5 p4 p3 p2 p0 rec v6 v1 g).bind K) := by
  unfold f_X9_warn_58_b
  refine j_iload (pc := 58) 0 dX9_warn_58 rfl ?_
  refine j_iconst (pc := 60) (v := 5) dX9_warn_60 (by decide) ?_
  refine j_icmp_ge (pc := 61) (tgt := 182) dX9_warn_61 (by decide) bi (fun hc => ?_) (fun hc => ?_)
  · exact he v6 v1 g
  · refine j_bipush (pc := 64) (v := 30) dX9_warn_64 (by decide) ?_
    refine j_iload_n (pc := 66) 4 dX9_warn_66 rfl rfl ?_
    refine j_imul (pc := 67) dX9_warn_67 ?_
    refine j_iconst (pc := 68) (v := 5) dX9_warn_68 (by decide) ?_
    refine j_iload (pc := 69) 2 dX9_warn_69 rfl ?_
    refine j_imul (pc := 71) dX9_warn_71 ?_
    refine j_iadd (pc := 72) dX9_warn_72 ?_
    refine j_iload (pc := 73) 0 dX9_warn_73 rfl ?_
    refine j_iadd (pc := 75) dX9_warn_75 ?_
    refine j_istore (pc := 76) (lv' := [(7, sI (((30 * p2) + (5 * p4)) + v6)), (6, sI v6), (5, sI p5), (4, sI p4), (3, sI p3), (2, sI p2), (1, sI v1), (0, sR p0)]) dX9_warn_76 (by decide) rfl ?_
    refine j_iload_n (pc := 78) 4 dX9_warn_78 rfl rfl ?_
    refine J.eq bb ?_
    refine J.jn (σ := Int32) (fun q11 pr => J yX9_warn cX9_warn 10 (some .int) 4 100 X g 109 [(7, sI (((30 * p2) + (5 * p4)) + v6)), (6, sI v6), (5, sI p5), (4, sI p4), (3, sI p3), (2, sI p2), (1, sI v1), (0, sR p0)] [sI q11] pr) (fun K109 hK109 => ?_) (fun q11 => ?_)
    · refine j_if_ne (pc := 79) (tgt := 108) dX9_warn_79 (by decide) bi (fun hc => ?_) (fun hc => ?_)
      · refine j_iconst (pc := 108) (v := 0) dX9_warn_108 (by decide) ?_
        exact hK109 (0)
      · refine j_iload (pc := 82) 2 dX9_warn_82 rfl ?_
        refine j_aload_n (pc := 84) 7 dX9_warn_84 rfl rfl ?_
        refine j_getR (pc := 85) (own := RX9) dX9_warn_85 lf_X9_36 rfl bb (fun x7 => ?_)
        refine j_iload (pc := 88) 1 dX9_warn_88 rfl ?_
        refine j_aldI (pc := 90) dX9_warn_90 bb (fun x8 => ?_)
        refine j_icmp_lt (pc := 91) (tgt := 108) dX9_warn_91 (by decide) bi (fun hc => ?_) (fun hc => ?_)
        · refine j_iconst (pc := 108) (v := 0) dX9_warn_108 (by decide) ?_
          exact hK109 (0)
        · refine j_aload_n (pc := 94) 7 dX9_warn_94 rfl rfl ?_
          refine j_getR (pc := 95) (own := RX9) dX9_warn_95 lf_X9_66 rfl bb (fun x9 => ?_)
          refine j_iload (pc := 98) 0 dX9_warn_98 rfl ?_
          refine j_aldI (pc := 100) dX9_warn_100 bb (fun x10 => ?_)
          refine j_if_ne (pc := 101) (tgt := 108) dX9_warn_101 (by decide) bi (fun hc => ?_) (fun hc => ?_)
          · refine j_iconst (pc := 108) (v := 0) dX9_warn_108 (by decide) ?_
            exact hK109 (0)
          · refine j_iconst (pc := 104) (v := 1) dX9_warn_104 (by decide) ?_
            refine j_goto (pc := 105) (tgt := 109) dX9_warn_105 (by decide) ?_
            exact hK109 (1)
    · refine j_istore (pc := 109) (lv' := [(8, sI q11), (7, sI (((30 * p2) + (5 * p4)) + v6)), (6, sI v6), (5, sI p5), (4, sI p4), (3, sI p3), (2, sI p2), (1, sI v1), (0, sR p0)]) dX9_warn_109 (by decide) rfl ?_
      refine j_iload_n (pc := 111) 5 dX9_warn_111 rfl rfl ?_
      refine J.eq bb ?_
      refine J.jn (σ := Int32) (fun q14 pr => J yX9_warn cX9_warn 10 (some .int) 4 100 X g 131 [(8, sI q11), (7, sI (((30 * p2) + (5 * p4)) + v6)), (6, sI v6), (5, sI p5), (4, sI p4), (3, sI p3), (2, sI p2), (1, sI v1), (0, sR p0)] [sI q14] pr) (fun K131 hK131 => ?_) (fun q14 => ?_)
      · refine j_if_eq (pc := 112) (tgt := 130) dX9_warn_112 (by decide) bi (fun hc => ?_) (fun hc => ?_)
        · refine j_iconst (pc := 130) (v := 0) dX9_warn_130 (by decide) ?_
          exact hK131 (0)
        · refine j_aload_n (pc := 115) 8 dX9_warn_115 rfl rfl ?_
          refine j_getR (pc := 116) (own := RX9) dX9_warn_116 lf_X9_66 rfl bb (fun x12 => ?_)
          refine j_iload (pc := 119) 1 dX9_warn_119 rfl ?_
          refine j_aldI (pc := 121) dX9_warn_121 bb (fun x13 => ?_)
          refine j_iconst (pc := 122) (v := 1) dX9_warn_122 (by decide) ?_
          refine j_icmp_ne (pc := 123) (tgt := 130) dX9_warn_123 (by decide) bi (fun hc => ?_) (fun hc => ?_)
          · refine j_iconst (pc := 130) (v := 0) dX9_warn_130 (by decide) ?_
            exact hK131 (0)
          · refine j_iconst (pc := 126) (v := 1) dX9_warn_126 (by decide) ?_
            refine j_goto (pc := 127) (tgt := 131) dX9_warn_127 (by decide) ?_
            exact hK131 (1)
      · refine j_istore (pc := 131) (lv' := [(9, sI q14), (8, sI q11), (7, sI (((30 * p2) + (5 * p4)) + v6)), (6, sI v6), (5, sI p5), (4, sI p4), (3, sI p3), (2, sI p2), (1, sI v1), (0, sR p0)]) dX9_warn_131 (by decide) rfl ?_
        refine j_iload (pc := 133) 1 dX9_warn_133 rfl ?_
        refine j_if_ne (pc := 135) (tgt := 143) dX9_warn_135 (by decide) bi (fun hc => ?_) (fun hc => ?_)
        · refine j_aload_n (pc := 143) 9 dX9_warn_143 rfl rfl ?_
          refine j_iload (pc := 144) 5 dX9_warn_144 rfl ?_
          refine j_iload_n (pc := 146) 7 dX9_warn_146 rfl rfl ?_
          refine j_iload_n (pc := 147) 6 dX9_warn_147 rfl rfl ?_
          refine J.eq bb ?_
          refine J.jn (σ := Int32) (fun q15 pr => J yX9_warn cX9_warn 10 (some .int) 4 100 X g 159 [(9, sI q14), (8, sI q11), (7, sI (((30 * p2) + (5 * p4)) + v6)), (6, sI v6), (5, sI p5), (4, sI p4), (3, sI p3), (2, sI p2), (1, sI v1), (0, sR p0)] [sI q15, sI p2, sI p4, sR p0] pr) (fun K159 hK159 => ?_) (fun q15 => ?_)
          · refine j_if_eq (pc := 148) (tgt := 157) dX9_warn_148 (by decide) bi (fun hc => ?_) (fun hc => ?_)
            · refine j_iload (pc := 157) 3 dX9_warn_157 rfl ?_
              exact hK159 (v6)
            · refine j_iload (pc := 151) 3 dX9_warn_151 rfl ?_
              refine j_ineg (pc := 153) dX9_warn_153 ?_
              refine j_goto (pc := 154) (tgt := 159) dX9_warn_154 (by decide) ?_
              exact hK159 ((0 - v6))
          · refine j_callV (pc := 159) (own := RX9) [sI p4, sI p2, sI q15] [] dX9_warn_159 lc_X9_165 lv_X9_say rfl (m_X9_say z p0 p4 p2 q15 g) ⟨⟨Nat.le_of_ble_eq_true rfl, Nat.le_of_ble_eq_true rfl⟩, Nat.le_of_ble_eq_true rfl⟩ rfl bb (fun q16r q16g => ?_)
            refine j_aload_n (pc := 162) 9 dX9_warn_162 rfl rfl ?_
            refine j_getR (pc := 163) (own := RX9) dX9_warn_163 lf_X9_66 rfl bb (fun x17 => ?_)
            refine j_iload (pc := 166) 2 dX9_warn_166 rfl ?_
            refine j_dup2 (pc := 168) dX9_warn_168 rfl rfl ?_
            refine j_aldI (pc := 169) dX9_warn_169 bb (fun x18 => ?_)
            refine j_iconst (pc := 170) (v := 1) dX9_warn_170 (by decide) ?_
            refine j_iadd (pc := 171) dX9_warn_171 ?_
            refine j_astI (pc := 172) dX9_warn_172 bb (fun g19 => ?_)
            refine j_iinc (pc := 173) (v := (v1 + 1)) (lv' := [(1, sI (v1 + 1)), (9, sI q14), (8, sI q11), (7, sI (((30 * p2) + (5 * p4)) + v6)), (6, sI v6), (5, sI p5), (4, sI p4), (3, sI p3), (2, sI p2), (0, sR p0)]) 8 dX9_warn_173 rfl rfl (by decide) rfl ?_
            refine j_iinc (pc := 176) (v := (v6 + 1)) (lv' := [(6, sI (v6 + 1)), (1, sI (v1 + 1)), (9, sI q14), (8, sI q11), (7, sI (((30 * p2) + (5 * p4)) + v6)), (5, sI p5), (4, sI p4), (3, sI p3), (2, sI p2), (0, sR p0)]) 4 dX9_warn_176 rfl rfl (by decide) rfl ?_
            refine j_goto (pc := 179) (tgt := 58) dX9_warn_179 (by decide) ?_
            refine J.sub [0, 5, 6, 7, 8, 1, 9] rfl ?_
            exact hr (v6 + 1) (v1 + 1) g19
        · refine j_iload (pc := 138) 0 dX9_warn_138 rfl ?_
          refine j_if_eq (pc := 140) (tgt := 176) dX9_warn_140 (by decide) bi (fun hc => ?_) (fun hc => ?_)
          · refine j_iinc (pc := 176) (v := (v6 + 1)) (lv' := [(6, sI (v6 + 1)), (9, sI q14), (8, sI q11), (7, sI (((30 * p2) + (5 * p4)) + v6)), (5, sI p5), (4, sI p4), (3, sI p3), (2, sI p2), (1, sI v1), (0, sR p0)]) 3 dX9_warn_176 rfl rfl (by decide) rfl ?_
            refine j_goto (pc := 179) (tgt := 58) dX9_warn_179 (by decide) ?_
            refine J.sub [0, 4, 5, 6, 7, 8, 9] rfl ?_
            exact hr (v6 + 1) v1 g
          · refine j_aload_n (pc := 143) 9 dX9_warn_143 rfl rfl ?_
            refine j_iload (pc := 144) 5 dX9_warn_144 rfl ?_
            refine j_iload_n (pc := 146) 7 dX9_warn_146 rfl rfl ?_
            refine j_iload_n (pc := 147) 6 dX9_warn_147 rfl rfl ?_
            refine J.eq bb ?_
            refine J.jn (σ := Int32) (fun q20 pr => J yX9_warn cX9_warn 10 (some .int) 4 100 X g 159 [(9, sI q14), (8, sI q11), (7, sI (((30 * p2) + (5 * p4)) + v6)), (6, sI v6), (5, sI p5), (4, sI p4), (3, sI p3), (2, sI p2), (1, sI v1), (0, sR p0)] [sI q20, sI p2, sI p4, sR p0] pr) (fun K159 hK159 => ?_) (fun q20 => ?_)
            · refine j_if_eq (pc := 148) (tgt := 157) dX9_warn_148 (by decide) bi (fun hc => ?_) (fun hc => ?_)
              · refine j_iload (pc := 157) 3 dX9_warn_157 rfl ?_
                exact hK159 (v6)
              · refine j_iload (pc := 151) 3 dX9_warn_151 rfl ?_
                refine j_ineg (pc := 153) dX9_warn_153 ?_
                refine j_goto (pc := 154) (tgt := 159) dX9_warn_154 (by decide) ?_
                exact hK159 ((0 - v6))
            · refine j_callV (pc := 159) (own := RX9) [sI p4, sI p2, sI q20] [] dX9_warn_159 lc_X9_165 lv_X9_say rfl (m_X9_say z p0 p4 p2 q20 g) ⟨⟨Nat.le_of_ble_eq_true rfl, Nat.le_of_ble_eq_true rfl⟩, Nat.le_of_ble_eq_true rfl⟩ rfl bb (fun q21r q21g => ?_)
              refine j_aload_n (pc := 162) 9 dX9_warn_162 rfl rfl ?_
              refine j_getR (pc := 163) (own := RX9) dX9_warn_163 lf_X9_66 rfl bb (fun x22 => ?_)
              refine j_iload (pc := 166) 2 dX9_warn_166 rfl ?_
              refine j_dup2 (pc := 168) dX9_warn_168 rfl rfl ?_
              refine j_aldI (pc := 169) dX9_warn_169 bb (fun x23 => ?_)
              refine j_iconst (pc := 170) (v := 1) dX9_warn_170 (by decide) ?_
              refine j_iadd (pc := 171) dX9_warn_171 ?_
              refine j_astI (pc := 172) dX9_warn_172 bb (fun g24 => ?_)
              refine j_iinc (pc := 173) (v := (v1 + 1)) (lv' := [(1, sI (v1 + 1)), (9, sI q14), (8, sI q11), (7, sI (((30 * p2) + (5 * p4)) + v6)), (6, sI v6), (5, sI p5), (4, sI p4), (3, sI p3), (2, sI p2), (0, sR p0)]) 8 dX9_warn_173 rfl rfl (by decide) rfl ?_
              refine j_iinc (pc := 176) (v := (v6 + 1)) (lv' := [(6, sI (v6 + 1)), (1, sI (v1 + 1)), (9, sI q14), (8, sI q11), (7, sI (((30 * p2) + (5 * p4)) + v6)), (5, sI p5), (4, sI p4), (3, sI p3), (2, sI p2), (0, sR p0)]) 4 dX9_warn_176 rfl rfl (by decide) rfl ?_
              refine j_goto (pc := 179) (tgt := 58) dX9_warn_179 (by decide) ?_
              refine J.sub [0, 5, 6, 7, 8, 1, 9] rfl ?_
              exact hr (v6 + 1) (v1 + 1) g24
set_option maxRecDepth 20000 in
theorem l_X9_warn_58 {X : Xt Int32} (hX : IsM rtI X) (z : Nat) (p5 : Int32) (p4 : Int32) (p3 : Int32) (p2 : Int32) (p0 : Option Nm) (K : Int32 × Int32 × Hp → Option (Int32 × Hp)) (he : ∀ (v6 : Int32) (v1 : Int32) (g : Hp), J yX9_warn cX9_warn 10 (some .int) 4 100 X g 182 [(6, sI v6), (5, sI p5), (4, sI p4), (3, sI p3), (2, sI p2), (1, sI v1), (0, sR p0)] [] (K (v6, v1, g))) : ∀ (n : Nat) (v6 : Int32) (v1 : Int32) (g : Hp), J yX9_warn cX9_warn 10 (some .int) 4 100 X g 58 [(6, sI v6), (5, sI p5), (4, sI p4), (3, sI p3), (2, sI p2), (1, sI v1), (0, sR p0)] [] ((f_X9_warn_58_L z p5 p4 p3 p2 p0 n v6 v1 g).bind K)
  | 0, _, _, _ => J.eq rfl J.none
  | n + 1, v6, v1, g => b_X9_warn_58 hX z p5 p4 p3 p2 p0 _ K he (fun v6 v1 g => l_X9_warn_58 hX z p5 p4 p3 p2 p0 K he n v6 v1 g) v6 v1 g
set_option maxRecDepth 20000 in
theorem b_X9_warn_29 {X : Xt Int32} (hX : IsM rtI X) (z : Nat) (p3 : Int32) (p2 : Int32) (p0 : Option Nm) (rec : Int32 → Int32 → Hp → Option (Int32 × Int32 × Hp)) (K : Int32 × Int32 × Hp → Option (Int32 × Hp)) (he : ∀ (v4 : Int32) (v1 : Int32) (g : Hp), J yX9_warn cX9_warn 10 (some .int) 4 100 X g 188 [(4, sI v4), (3, sI p3), (2, sI p2), (1, sI v1), (0, sR p0)] [] (K (v4, v1, g))) (hr : ∀ (v4 : Int32) (v1 : Int32) (g : Hp), J yX9_warn cX9_warn 10 (some .int) 4 100 X g 29 [(4, sI v4), (3, sI p3), (2, sI p2), (1, sI v1), (0, sR p0)] [] ((rec v4 v1 g).bind K)) (v4 : Int32) (v1 : Int32) (g : Hp) : J yX9_warn cX9_warn 10 (some .int) 4 100 X g 29 [(4, sI v4), (3, sI p3), (2, sI p2), (1, sI v1), (0, sR p0)] [] ((f_X9_warn_29_b z p3 p2 p0 rec v4 v1 g).bind K) := by
  unfold f_X9_warn_29_b
  refine j_iload (pc := 29) 0 dX9_warn_29 rfl ?_
  refine j_aload_n (pc := 31) 4 dX9_warn_31 rfl rfl ?_
  refine j_getI (pc := 32) (own := RX9) dX9_warn_32 lf_X9_86 rfl bb (fun x4 => ?_)
  refine j_icmp_ge (pc := 35) (tgt := 188) dX9_warn_35 (by decide) bi (fun hc => ?_) (fun hc => ?_)
  · exact he v4 v1 g
  · refine j_iload_n (pc := 38) 1 dX9_warn_38 rfl rfl ?_
    refine J.eq bb ?_
    refine J.jn (σ := Int32 × Hp) (fun q6 pr => J yX9_warn cX9_warn 10 (some .int) 4 100 X q6.2 53 [(4, sI v4), (3, sI p3), (2, sI p2), (1, sI v1), (0, sR p0)] [sI q6.1] pr) (fun K53 hK53 => ?_) (fun q6 => ?_)
    · refine j_if_eq (pc := 39) (tgt := 46) dX9_warn_39 (by decide) bi (fun hc => ?_) (fun hc => ?_)
      · refine j_aload_n (pc := 46) 4 dX9_warn_46 rfl rfl ?_
        refine j_iload (pc := 47) 0 dX9_warn_47 rfl ?_
        refine j_iload_n (pc := 49) 2 dX9_warn_49 rfl rfl ?_
        refine j_callV (pc := 50) (own := RX9) [sI v4, sI p2] [] dX9_warn_50 lc_X9_159 lv_X9_feels rfl (m_X9_feels z p0 v4 p2 g) ⟨⟨Nat.le_of_ble_eq_true rfl, Nat.le_of_ble_eq_true rfl⟩, Nat.le_of_ble_eq_true rfl⟩ rfl bb (fun q5r q5g => ?_)
        exact hK53 (q5r, q5g)
      · refine j_iconst (pc := 42) (v := 0) dX9_warn_42 (by decide) ?_
        refine j_goto (pc := 43) (tgt := 53) dX9_warn_43 (by decide) ?_
        exact hK53 (0, g)
    · refine j_istore (pc := 53) (lv' := [(5, sI q6.1), (4, sI v4), (3, sI p3), (2, sI p2), (1, sI v1), (0, sR p0)]) dX9_warn_53 (by decide) rfl ?_
      refine j_iconst (pc := 55) (v := 1) dX9_warn_55 (by decide) ?_
      refine j_istore (pc := 56) (lv' := [(6, sI 1), (5, sI q6.1), (4, sI v4), (3, sI p3), (2, sI p2), (1, sI v1), (0, sR p0)]) dX9_warn_56 (by decide) rfl ?_
      refine J.eq bb ?_
      refine l_X9_warn_58 hX z q6.1 v4 p3 p2 p0 _ (fun q25_0 q25_1 q25_g => ?_) z 1 v1 q6.2
      refine j_iinc (pc := 182) (v := (v4 + 1)) (lv' := [(4, sI (v4 + 1)), (6, sI q25_0), (5, sI q6.1), (3, sI p3), (2, sI p2), (1, sI q25_1), (0, sR p0)]) 2 dX9_warn_182 rfl rfl (by decide) rfl ?_
      refine j_goto (pc := 185) (tgt := 29) dX9_warn_185 (by decide) ?_
      refine J.sub [0, 3, 4, 5, 6] rfl ?_
      exact hr (v4 + 1) q25_1 q25_g
set_option maxRecDepth 20000 in
theorem l_X9_warn_29 {X : Xt Int32} (hX : IsM rtI X) (z : Nat) (p3 : Int32) (p2 : Int32) (p0 : Option Nm) (K : Int32 × Int32 × Hp → Option (Int32 × Hp)) (he : ∀ (v4 : Int32) (v1 : Int32) (g : Hp), J yX9_warn cX9_warn 10 (some .int) 4 100 X g 188 [(4, sI v4), (3, sI p3), (2, sI p2), (1, sI v1), (0, sR p0)] [] (K (v4, v1, g))) : ∀ (n : Nat) (v4 : Int32) (v1 : Int32) (g : Hp), J yX9_warn cX9_warn 10 (some .int) 4 100 X g 29 [(4, sI v4), (3, sI p3), (2, sI p2), (1, sI v1), (0, sR p0)] [] ((f_X9_warn_29_L z p3 p2 p0 n v4 v1 g).bind K)
  | 0, _, _, _ => J.eq rfl J.none
  | n + 1, v4, v1, g => b_X9_warn_29 hX z p3 p2 p0 _ K he (fun v4 v1 g => l_X9_warn_29 hX z p3 p2 p0 K he n v4 v1 g) v4 v1 g
set_option maxRecDepth 20000 in
theorem b_X9_warn_4 {X : Xt Int32} (hX : IsM rtI X) (z : Nat) (p0 : Option Nm) (rec : Int32 → Int32 → Hp → Option (Int32 × Int32 × Hp)) (K : Int32 × Int32 × Hp → Option (Int32 × Hp)) (he : ∀ (v2 : Int32) (v1 : Int32) (g : Hp), J yX9_warn cX9_warn 10 (some .int) 4 100 X g 194 [(2, sI v2), (1, sI v1), (0, sR p0)] [] (K (v2, v1, g))) (hr : ∀ (v2 : Int32) (v1 : Int32) (g : Hp), J yX9_warn cX9_warn 10 (some .int) 4 100 X g 4 [(2, sI v2), (1, sI v1), (0, sR p0)] [] ((rec v2 v1 g).bind K)) (v2 : Int32) (v1 : Int32) (g : Hp) : J yX9_warn cX9_warn 10 (some .int) 4 100 X g 4 [(2, sI v2), (1, sI v1), (0, sR p0)] [] ((f_X9_warn_4_b z p0 rec v2 v1 g).bind K) := by
  unfold f_X9_warn_4_b
  refine j_iload_n (pc := 4) 0 dX9_warn_4 rfl rfl ?_
  refine j_aload_n (pc := 5) 2 dX9_warn_5 rfl rfl ?_
  refine j_getI (pc := 6) (own := RX9) dX9_warn_6 lf_X9_119 rfl bb (fun x1 => ?_)
  refine j_icmp_ge (pc := 9) (tgt := 194) dX9_warn_9 (by decide) bi (fun hc => ?_) (fun hc => ?_)
  · exact he v2 v1 g
  · refine j_aload_n (pc := 12) 2 dX9_warn_12 rfl rfl ?_
    refine j_iload_n (pc := 13) 0 dX9_warn_13 rfl rfl ?_
    refine j_callV (pc := 14) (own := RX9) [sI v2] [] dX9_warn_14 lc_X9_122 lv_X9_setHeap rfl (m_X9_setHeap z p0 v2 g) ⟨⟨Nat.le_of_ble_eq_true rfl, Nat.le_of_ble_eq_true rfl⟩, Nat.le_of_ble_eq_true rfl⟩ rfl bb (fun q2r q2g => ?_)
    refine J.eq bb ?_
    refine J.jn (σ := Int32) (fun q3 pr => J yX9_warn cX9_warn 10 (some .int) 4 100 X q2g 25 [(2, sI v2), (1, sI v1), (0, sR p0)] [sI q3] pr) (fun K25 hK25 => ?_) (fun q3 => ?_)
    · refine j_if_ne (pc := 17) (tgt := 24) dX9_warn_17 (by decide) bi (fun hc => ?_) (fun hc => ?_)
      · refine j_iconst (pc := 24) (v := 0) dX9_warn_24 (by decide) ?_
        exact hK25 (0)
      · refine j_iconst (pc := 20) (v := 1) dX9_warn_20 (by decide) ?_
        refine j_goto (pc := 21) (tgt := 25) dX9_warn_21 (by decide) ?_
        exact hK25 (1)
    · refine j_istore_n (pc := 25) (lv' := [(3, sI q3), (2, sI v2), (1, sI v1), (0, sR p0)]) dX9_warn_25 rfl (by decide) rfl ?_
      refine j_iconst (pc := 26) (v := 0) dX9_warn_26 (by decide) ?_
      refine j_istore (pc := 27) (lv' := [(4, sI 0), (3, sI q3), (2, sI v2), (1, sI v1), (0, sR p0)]) dX9_warn_27 (by decide) rfl ?_
      refine J.eq bb ?_
      refine l_X9_warn_29 hX z q3 v2 p0 _ (fun q26_0 q26_1 q26_g => ?_) z 0 v1 q2g
      refine j_iinc (pc := 188) (v := (v2 + 1)) (lv' := [(2, sI (v2 + 1)), (4, sI q26_0), (3, sI q3), (1, sI q26_1), (0, sR p0)]) 2 dX9_warn_188 rfl rfl (by decide) rfl ?_
      refine j_goto (pc := 191) (tgt := 4) dX9_warn_191 (by decide) ?_
      refine J.sub [0, 3, 4] rfl ?_
      exact hr (v2 + 1) q26_1 q26_g
set_option maxRecDepth 20000 in
theorem l_X9_warn_4 {X : Xt Int32} (hX : IsM rtI X) (z : Nat) (p0 : Option Nm) (K : Int32 × Int32 × Hp → Option (Int32 × Hp)) (he : ∀ (v2 : Int32) (v1 : Int32) (g : Hp), J yX9_warn cX9_warn 10 (some .int) 4 100 X g 194 [(2, sI v2), (1, sI v1), (0, sR p0)] [] (K (v2, v1, g))) : ∀ (n : Nat) (v2 : Int32) (v1 : Int32) (g : Hp), J yX9_warn cX9_warn 10 (some .int) 4 100 X g 4 [(2, sI v2), (1, sI v1), (0, sR p0)] [] ((f_X9_warn_4_L z p0 n v2 v1 g).bind K)
  | 0, _, _, _ => J.eq rfl J.none
  | n + 1, v2, v1, g => b_X9_warn_4 hX z p0 _ K he (fun v2 v1 g => l_X9_warn_4 hX z p0 K he n v2 v1 g) v2 v1 g
set_option maxRecDepth 20000 in
theorem m_X9_warn (z : Nat) (t : Option Nm) (g : Hp) : FM yX9_warn cX9_warn 10 (some .int) 4 100 rtI [sR t] g (f_X9_warn z t g) := by
  refine FM.entry (by decide +kernel) (Nat.le_of_ble_eq_true rfl) (fun X hX => ?_)
  unfold f_X9_warn
  show J yX9_warn cX9_warn 10 (some .int) 4 100 X g 0 [(0, sR t)] [] _
  refine j_iconst (pc := 0) (v := 0) dX9_warn_0 (by decide) ?_
  refine j_istore_n (pc := 1) (lv' := [(1, sI 0), (0, sR t)]) dX9_warn_1 rfl (by decide) rfl ?_
  refine j_iconst (pc := 2) (v := 0) dX9_warn_2 (by decide) ?_
  refine j_istore_n (pc := 3) (lv' := [(2, sI 0), (1, sI 0), (0, sR t)]) dX9_warn_3 rfl (by decide) rfl ?_
  refine l_X9_warn_4 hX z t _ (fun q27_0 q27_1 q27_g => ?_) z 0 0 g
  refine j_iload_n (pc := 194) 1 dX9_warn_194 rfl rfl ?_
  exact j_ireturn dX9_warn_195 hX rfl rfl
/-! X9_drill -/
noncomputable def f_X9_drill (z : Nat) (t : Option Nm) (a0 : Int32) (a1 : Int32) (g : Hp) : Option (Int32 × Hp) :=
  (ick t 10 (f_X9_isTown z t a0 g)).bind fun q1 =>
  if q1.1 = 0 then (some ((-1), q1.2))
  else ((f_X9_in z a1 1 4 q1.2).bind fun q2 =>
    if q2.1 = 0 then (some ((-1), q2.2))
    else ((getI t 10 24 q2.2).bind fun x3 =>
      if x3 < 400 then ((ick t 10 (f_X9_say z t a0 (-9) a1 q2.2)).bind fun q4 =>
        (getI t 10 24 q4.2).bind fun x5 =>
        some (x5, q4.2))
      else (some ((-2), q2.2))))
set_option maxRecDepth 20000 in
theorem m_X9_drill (z : Nat) (t : Option Nm) (a0 : Int32) (a1 : Int32) (g : Hp) : FM yX9_drill cX9_drill 3 (some .int) 2 43 rtI [sR t, sI a0, sI a1] g (f_X9_drill z t a0 a1 g) := by
  refine FM.entry (by decide +kernel) (Nat.le_of_ble_eq_true rfl) (fun X hX => ?_)
  unfold f_X9_drill
  show J yX9_drill cX9_drill 3 (some .int) 2 43 X g 0 [(0, sR t), (1, sI a0), (2, sI a1)] [] _
  refine j_aload_n (pc := 0) 0 dX9_drill_0 rfl rfl ?_
  refine j_iload_n (pc := 1) 1 dX9_drill_1 rfl rfl ?_
  refine j_callV (pc := 2) (own := RX9) [sI a0] [] dX9_drill_2 lc_X9_153 lv_X9_isTown rfl (m_X9_isTown z t a0 g) ⟨⟨Nat.le_of_ble_eq_true rfl, Nat.le_of_ble_eq_true rfl⟩, Nat.le_of_ble_eq_true rfl⟩ rfl rfl (fun q1r q1g => ?_)
  refine j_if_eq (pc := 5) (tgt := 17) dX9_drill_5 (by decide) rfl (fun hc => ?_) (fun hc => ?_)
  · refine j_iconst (pc := 17) (v := (-1)) dX9_drill_17 (by decide) ?_
    exact j_ireturn dX9_drill_18 hX rfl rfl
  · refine j_iload_n (pc := 8) 2 dX9_drill_8 rfl rfl ?_
    refine j_iconst (pc := 9) (v := 1) dX9_drill_9 (by decide) ?_
    refine j_iconst (pc := 10) (v := 4) dX9_drill_10 (by decide) ?_
    refine j_callS (pc := 11) (own := RX9) [sI a1, sI 1, sI 4] [] dX9_drill_11 lc_X9_72 ls_X9_in rfl (m_X9_in z a1 1 4 q1g) ⟨⟨Nat.le_of_ble_eq_true rfl, Nat.le_of_ble_eq_true rfl⟩, Nat.le_of_ble_eq_true rfl⟩ rfl rfl (fun q2r q2g => ?_)
    refine j_if_ne (pc := 14) (tgt := 19) dX9_drill_14 (by decide) rfl (fun hc => ?_) (fun hc => ?_)
    · refine j_aload_n (pc := 19) 0 dX9_drill_19 rfl rfl ?_
      refine j_getI (pc := 20) (own := RX9) dX9_drill_20 lf_X9_162 rfl rfl (fun x3 => ?_)
      refine j_sipush (pc := 23) (v := 400) dX9_drill_23 (by decide) ?_
      refine j_icmp_lt (pc := 26) (tgt := 32) dX9_drill_26 (by decide) rfl (fun hc => ?_) (fun hc => ?_)
      · refine j_aload_n (pc := 32) 0 dX9_drill_32 rfl rfl ?_
        refine j_iload_n (pc := 33) 1 dX9_drill_33 rfl rfl ?_
        refine j_bipush (pc := 34) (v := (-9)) dX9_drill_34 (by decide) ?_
        refine j_iload_n (pc := 36) 2 dX9_drill_36 rfl rfl ?_
        refine j_callV (pc := 37) (own := RX9) [sI a0, sI (-9), sI a1] [] dX9_drill_37 lc_X9_165 lv_X9_say rfl (m_X9_say z t a0 (-9) a1 q2g) ⟨⟨Nat.le_of_ble_eq_true rfl, Nat.le_of_ble_eq_true rfl⟩, Nat.le_of_ble_eq_true rfl⟩ rfl rfl (fun q4r q4g => ?_)
        refine j_aload_n (pc := 40) 0 dX9_drill_40 rfl rfl ?_
        refine j_getI (pc := 41) (own := RX9) dX9_drill_41 lf_X9_162 rfl rfl (fun x5 => ?_)
        exact j_ireturn dX9_drill_44 hX rfl rfl
      · refine j_bipush (pc := 29) (v := (-2)) dX9_drill_29 (by decide) ?_
        exact j_ireturn dX9_drill_31 hX rfl rfl
    · refine j_iconst (pc := 17) (v := (-1)) dX9_drill_17 (by decide) ?_
      exact j_ireturn dX9_drill_18 hX rfl rfl
/-! X9_message -/
noncomputable def f_X9_message (z : Nat) (t : Option Nm) (a0 : Int32) (a1 : Int32) (g : Hp) : Option (Int32 × Hp) :=
  (f_X9_in z a1 0 3 g).bind fun q1 =>
  if q1.1 = 0 then (some ((-1), q1.2))
  else ((getI t 10 24 q1.2).bind fun x2 =>
    (f_X9_in z a0 0 (x2 - 1) q1.2).bind fun q3 =>
    if q3.1 = 0 then (some ((-9), q3.2))
    else (if 400 ≤ a0 then (some ((-9), q3.2))
      else ((getR t 10 25 q3.2).bind fun x4 =>
        (aldI x4 ((4 * a0) + a1) q3.2).bind fun x5 =>
        some (x5, q3.2))))
set_option maxRecDepth 20000 in
theorem m_X9_message (z : Nat) (t : Option Nm) (a0 : Int32) (a1 : Int32) (g : Hp) : FM yX9_message cX9_message 3 (some .int) 1 22 rtI [sR t, sI a0, sI a1] g (f_X9_message z t a0 a1 g) := by
  refine FM.entry (by decide +kernel) (Nat.le_of_ble_eq_true rfl) (fun X hX => ?_)
  unfold f_X9_message
  show J yX9_message cX9_message 3 (some .int) 1 22 X g 0 [(0, sR t), (1, sI a0), (2, sI a1)] [] _
  refine j_iload_n (pc := 0) 2 dX9_message_0 rfl rfl ?_
  refine j_iconst (pc := 1) (v := 0) dX9_message_1 (by decide) ?_
  refine j_iconst (pc := 2) (v := 3) dX9_message_2 (by decide) ?_
  refine j_callS (pc := 3) (own := RX9) [sI a1, sI 0, sI 3] [] dX9_message_3 lc_X9_72 ls_X9_in rfl (m_X9_in z a1 0 3 g) ⟨⟨Nat.le_of_ble_eq_true rfl, Nat.le_of_ble_eq_true rfl⟩, Nat.le_of_ble_eq_true rfl⟩ rfl rfl (fun q1r q1g => ?_)
  refine j_if_ne (pc := 6) (tgt := 13) dX9_message_6 (by decide) rfl (fun hc => ?_) (fun hc => ?_)
  · refine j_iload_n (pc := 13) 1 dX9_message_13 rfl rfl ?_
    refine j_iconst (pc := 14) (v := 0) dX9_message_14 (by decide) ?_
    refine j_aload_n (pc := 15) 0 dX9_message_15 rfl rfl ?_
    refine j_getI (pc := 16) (own := RX9) dX9_message_16 lf_X9_162 rfl rfl (fun x2 => ?_)
    refine j_iconst (pc := 19) (v := 1) dX9_message_19 (by decide) ?_
    refine j_isub (pc := 20) dX9_message_20 ?_
    refine j_callS (pc := 21) (own := RX9) [sI a0, sI 0, sI (x2 - 1)] [] dX9_message_21 lc_X9_72 ls_X9_in rfl (m_X9_in z a0 0 (x2 - 1) q1g) ⟨⟨Nat.le_of_ble_eq_true rfl, Nat.le_of_ble_eq_true rfl⟩, Nat.le_of_ble_eq_true rfl⟩ rfl rfl (fun q3r q3g => ?_)
    refine j_if_eq (pc := 24) (tgt := 47) dX9_message_24 (by decide) rfl (fun hc => ?_) (fun hc => ?_)
    · refine j_bipush (pc := 47) (v := (-9)) dX9_message_47 (by decide) ?_
      exact j_ireturn dX9_message_49 hX rfl rfl
    · refine j_iload_n (pc := 27) 1 dX9_message_27 rfl rfl ?_
      refine j_sipush (pc := 28) (v := 400) dX9_message_28 (by decide) ?_
      refine j_icmp_ge (pc := 31) (tgt := 47) dX9_message_31 (by decide) rfl (fun hc => ?_) (fun hc => ?_)
      · refine j_bipush (pc := 47) (v := (-9)) dX9_message_47 (by decide) ?_
        exact j_ireturn dX9_message_49 hX rfl rfl
      · refine j_aload_n (pc := 34) 0 dX9_message_34 rfl rfl ?_
        refine j_getR (pc := 35) (own := RX9) dX9_message_35 lf_X9_63 rfl rfl (fun x4 => ?_)
        refine j_iconst (pc := 38) (v := 4) dX9_message_38 (by decide) ?_
        refine j_iload_n (pc := 39) 1 dX9_message_39 rfl rfl ?_
        refine j_imul (pc := 40) dX9_message_40 ?_
        refine j_iload_n (pc := 41) 2 dX9_message_41 rfl rfl ?_
        refine j_iadd (pc := 42) dX9_message_42 ?_
        refine j_aldI (pc := 43) dX9_message_43 rfl (fun x5 => ?_)
        refine j_goto (pc := 44) (tgt := 49) dX9_message_44 (by decide) ?_
        exact j_ireturn dX9_message_49 hX rfl rfl
  · refine j_iconst (pc := 9) (v := (-1)) dX9_message_9 (by decide) ?_
    refine j_goto (pc := 10) (tgt := 49) dX9_message_10 (by decide) ?_
    exact j_ireturn dX9_message_49 hX rfl rfl
/-! X9_alarm -/
noncomputable def f_X9_alarm_16_b (z : Nat) (p0 : Option Nm) (p1 : Int32) (p2 : Int32) (rec : Int32 → Int32 → Hp → Option (Int32 × Int32 × Hp)) (v4 : Int32) (v3 : Int32) (g : Hp) : Option (Int32 × Int32 × Hp) :=
  if 5 ≤ v4 then (some (v4, v3, g))
  else ((getR p0 10 26 g).bind fun x2 =>
    (aldI x2 (((30 * p2) + (5 * p1)) + v4) g).bind fun x3 =>
    if x3 = 1 then (rec (v4 + 1) v4 g)
    else (rec (v4 + 1) v3 g))
noncomputable def f_X9_alarm_16_L (z : Nat) (p0 : Option Nm) (p1 : Int32) (p2 : Int32) : Nat → Int32 → Int32 → Hp → Option (Int32 × Int32 × Hp)
  | 0, _, _, _ => none
  | n + 1, v4, v3, g => f_X9_alarm_16_b z p0 p1 p2 (f_X9_alarm_16_L z p0 p1 p2 n) v4 v3 g
noncomputable def f_X9_alarm (z : Nat) (t : Option Nm) (a0 : Int32) (a1 : Int32) (g : Hp) : Option (Int32 × Hp) :=
  (ick t 10 (f_X9_areTownAndQuake z t a0 a1 g)).bind fun q1 =>
  if q1.1 = 0 then (some ((-1), q1.2))
  else ((f_X9_alarm_16_L z t a0 a1 z 1 0 q1.2).bind fun q4 =>
    some (q4.2.1, q4.2.2))
set_option maxRecDepth 20000 in
theorem b_X9_alarm_16 {X : Xt Int32} (hX : IsM rtI X) (z : Nat) (p0 : Option Nm) (p1 : Int32) (p2 : Int32) (rec : Int32 → Int32 → Hp → Option (Int32 × Int32 × Hp)) (K : Int32 × Int32 × Hp → Option (Int32 × Hp)) (he : ∀ (v4 : Int32) (v3 : Int32) (g : Hp), J yX9_alarm cX9_alarm 5 (some .int) 3 65 X g 55 [(4, sI v4), (3, sI v3), (0, sR p0), (1, sI p1), (2, sI p2)] [] (K (v4, v3, g))) (hr : ∀ (v4 : Int32) (v3 : Int32) (g : Hp), J yX9_alarm cX9_alarm 5 (some .int) 3 65 X g 16 [(4, sI v4), (3, sI v3), (0, sR p0), (1, sI p1), (2, sI p2)] [] ((rec v4 v3 g).bind K)) (v4 : Int32) (v3 : Int32) (g : Hp) : J yX9_alarm cX9_alarm 5 (some .int) 3 65 X g 16 [(4, sI v4), (3, sI v3), (0, sR p0), (1, sI p1), (2, sI p2)] [] ((f_X9_alarm_16_b z p0 p1 p2 rec v4 v3 g).bind K) := by
  unfold f_X9_alarm_16_b
  refine j_iload (pc := 16) 0 dX9_alarm_16 rfl ?_
  refine j_iconst (pc := 18) (v := 5) dX9_alarm_18 (by decide) ?_
  refine j_icmp_ge (pc := 19) (tgt := 55) dX9_alarm_19 (by decide) bi (fun hc => ?_) (fun hc => ?_)
  · exact he v4 v3 g
  · refine j_aload_n (pc := 22) 2 dX9_alarm_22 rfl rfl ?_
    refine j_getR (pc := 23) (own := RX9) dX9_alarm_23 lf_X9_66 rfl bb (fun x2 => ?_)
    refine j_bipush (pc := 26) (v := 30) dX9_alarm_26 (by decide) ?_
    refine j_iload_n (pc := 28) 4 dX9_alarm_28 rfl rfl ?_
    refine j_imul (pc := 29) dX9_alarm_29 ?_
    refine j_iconst (pc := 30) (v := 5) dX9_alarm_30 (by decide) ?_
    refine j_iload_n (pc := 31) 3 dX9_alarm_31 rfl rfl ?_
    refine j_imul (pc := 32) dX9_alarm_32 ?_
    refine j_iadd (pc := 33) dX9_alarm_33 ?_
    refine j_iload (pc := 34) 0 dX9_alarm_34 rfl ?_
    refine j_iadd (pc := 36) dX9_alarm_36 ?_
    refine j_aldI (pc := 37) dX9_alarm_37 bb (fun x3 => ?_)
    refine j_iconst (pc := 38) (v := 1) dX9_alarm_38 (by decide) ?_
    refine j_icmp_ne (pc := 39) (tgt := 47) dX9_alarm_39 (by decide) bi (fun hc => ?_) (fun hc => ?_)
    · refine j_iload_n (pc := 47) 1 dX9_alarm_47 rfl rfl ?_
      refine j_istore_n (pc := 48) (lv' := [(3, sI v3), (4, sI v4), (0, sR p0), (1, sI p1), (2, sI p2)]) dX9_alarm_48 rfl (by decide) rfl ?_
      refine j_iinc (pc := 49) (v := (v4 + 1)) (lv' := [(4, sI (v4 + 1)), (3, sI v3), (0, sR p0), (1, sI p1), (2, sI p2)]) 1 dX9_alarm_49 rfl rfl (by decide) rfl ?_
      refine j_goto (pc := 52) (tgt := 16) dX9_alarm_52 (by decide) ?_
      exact hr (v4 + 1) v3 g
    · refine j_iload (pc := 42) 0 dX9_alarm_42 rfl ?_
      refine j_goto (pc := 44) (tgt := 48) dX9_alarm_44 (by decide) ?_
      refine j_istore_n (pc := 48) (lv' := [(3, sI v4), (4, sI v4), (0, sR p0), (1, sI p1), (2, sI p2)]) dX9_alarm_48 rfl (by decide) rfl ?_
      refine j_iinc (pc := 49) (v := (v4 + 1)) (lv' := [(4, sI (v4 + 1)), (3, sI v4), (0, sR p0), (1, sI p1), (2, sI p2)]) 1 dX9_alarm_49 rfl rfl (by decide) rfl ?_
      refine j_goto (pc := 52) (tgt := 16) dX9_alarm_52 (by decide) ?_
      exact hr (v4 + 1) v4 g
set_option maxRecDepth 20000 in
theorem l_X9_alarm_16 {X : Xt Int32} (hX : IsM rtI X) (z : Nat) (p0 : Option Nm) (p1 : Int32) (p2 : Int32) (K : Int32 × Int32 × Hp → Option (Int32 × Hp)) (he : ∀ (v4 : Int32) (v3 : Int32) (g : Hp), J yX9_alarm cX9_alarm 5 (some .int) 3 65 X g 55 [(4, sI v4), (3, sI v3), (0, sR p0), (1, sI p1), (2, sI p2)] [] (K (v4, v3, g))) : ∀ (n : Nat) (v4 : Int32) (v3 : Int32) (g : Hp), J yX9_alarm cX9_alarm 5 (some .int) 3 65 X g 16 [(4, sI v4), (3, sI v3), (0, sR p0), (1, sI p1), (2, sI p2)] [] ((f_X9_alarm_16_L z p0 p1 p2 n v4 v3 g).bind K)
  | 0, _, _, _ => J.eq rfl J.none
  | n + 1, v4, v3, g => b_X9_alarm_16 hX z p0 p1 p2 _ K he (fun v4 v3 g => l_X9_alarm_16 hX z p0 p1 p2 K he n v4 v3 g) v4 v3 g
set_option maxRecDepth 20000 in
theorem m_X9_alarm (z : Nat) (t : Option Nm) (a0 : Int32) (a1 : Int32) (g : Hp) : FM yX9_alarm cX9_alarm 5 (some .int) 3 65 rtI [sR t, sI a0, sI a1] g (f_X9_alarm z t a0 a1 g) := by
  refine FM.entry (by decide +kernel) (Nat.le_of_ble_eq_true rfl) (fun X hX => ?_)
  unfold f_X9_alarm
  show J yX9_alarm cX9_alarm 5 (some .int) 3 65 X g 0 [(0, sR t), (1, sI a0), (2, sI a1)] [] _
  refine j_aload_n (pc := 0) 0 dX9_alarm_0 rfl rfl ?_
  refine j_iload_n (pc := 1) 1 dX9_alarm_1 rfl rfl ?_
  refine j_iload_n (pc := 2) 2 dX9_alarm_2 rfl rfl ?_
  refine j_callV (pc := 3) (own := RX9) [sI a0, sI a1] [] dX9_alarm_3 lc_X9_156 lv_X9_areTownAndQuake rfl (m_X9_areTownAndQuake z t a0 a1 g) ⟨⟨Nat.le_of_ble_eq_true rfl, Nat.le_of_ble_eq_true rfl⟩, Nat.le_of_ble_eq_true rfl⟩ rfl rfl (fun q1r q1g => ?_)
  refine j_if_ne (pc := 6) (tgt := 11) dX9_alarm_6 (by decide) rfl (fun hc => ?_) (fun hc => ?_)
  · refine j_iconst (pc := 11) (v := 0) dX9_alarm_11 (by decide) ?_
    refine j_istore_n (pc := 12) (lv' := [(3, sI 0), (0, sR t), (1, sI a0), (2, sI a1)]) dX9_alarm_12 rfl (by decide) rfl ?_
    refine j_iconst (pc := 13) (v := 1) dX9_alarm_13 (by decide) ?_
    refine j_istore (pc := 14) (lv' := [(4, sI 1), (3, sI 0), (0, sR t), (1, sI a0), (2, sI a1)]) dX9_alarm_14 (by decide) rfl ?_
    refine l_X9_alarm_16 hX z t a0 a1 _ (fun q4_0 q4_1 q4_g => ?_) z 1 0 q1g
    refine j_iload_n (pc := 55) 1 dX9_alarm_55 rfl rfl ?_
    exact j_ireturn dX9_alarm_56 hX rfl rfl
  · refine j_iconst (pc := 9) (v := (-1)) dX9_alarm_9 (by decide) ?_
    exact j_ireturn dX9_alarm_10 hX rfl rfl
/-! X9_comes -/
noncomputable def f_X9_comes_15_b (z : Nat) (p0 : Option Nm) (p1 : Int32) (p2 : Int32) (rec : Int32 → Int32 → Hp → Option (Int32 × Int32 × Hp)) (v4 : Int32) (v3 : Int32) (g : Hp) : Option (Int32 × Int32 × Hp) :=
  if 144 ≤ v4 then (some (v4, v3, g))
  else ((ick p0 10 (f_X9_has z p0 v4 g)).bind fun q2 =>
    if q2.1 = 0 then (rec (v4 + 1) v3 q2.2)
    else (((if p2 = 0 then ((getR p0 10 22 q2.2).bind fun x3 =>
          (aldI x3 v4 q2.2).bind fun x4 =>
          some (x4))
        else ((getR p0 10 23 q2.2).bind fun x5 =>
          (aldI x5 v4 q2.2).bind fun x6 =>
          some (x6))) : Option (Int32)).bind fun q7 =>
      (getR p0 10 10 q2.2).bind fun x8 =>
      (aldI x8 p1 q2.2).bind fun x9 =>
      (ick p0 10 (f_X9_travels z p0 v4 x9 q2.2)).bind fun q10 =>
      ((if (q7 + q10.1) ≤ v3 then (some (0))
        else (some (1))) : Option (Int32)).bind fun q11 =>
      if p2 = q11 then (rec (v4 + 1) (q7 + q10.1) q10.2)
      else (rec (v4 + 1) v3 q10.2)))
noncomputable def f_X9_comes_15_L (z : Nat) (p0 : Option Nm) (p1 : Int32) (p2 : Int32) : Nat → Int32 → Int32 → Hp → Option (Int32 × Int32 × Hp)
  | 0, _, _, _ => none
  | n + 1, v4, v3, g => f_X9_comes_15_b z p0 p1 p2 (f_X9_comes_15_L z p0 p1 p2 n) v4 v3 g
noncomputable def f_X9_comes (z : Nat) (t : Option Nm) (a0 : Int32) (a1 : Int32) (g : Hp) : Option (Int32 × Hp) :=
  ((if a1 = 0 then (some (1000000000))
    else (some ((-1000000000)))) : Option (Int32)).bind fun q1 =>
  (f_X9_comes_15_L z t a0 a1 z 0 q1 g).bind fun q12 =>
  some (q12.2.1, q12.2.2)
set_option maxRecDepth 20000 in
theorem b_X9_comes_15 {X : Xt Int32} (hX : IsM rtI X) (z : Nat) (p0 : Option Nm) (p1 : Int32) (p2 : Int32) (rec : Int32 → Int32 → Hp → Option (Int32 × Int32 × Hp)) (K : Int32 × Int32 × Hp → Option (Int32 × Hp)) (he : ∀ (v4 : Int32) (v3 : Int32) (g : Hp), J yX9_comes cX9_comes 6 (some .int) 1 26 X g 96 [(4, sI v4), (3, sI v3), (0, sR p0), (1, sI p1), (2, sI p2)] [] (K (v4, v3, g))) (hr : ∀ (v4 : Int32) (v3 : Int32) (g : Hp), J yX9_comes cX9_comes 6 (some .int) 1 26 X g 15 [(4, sI v4), (3, sI v3), (0, sR p0), (1, sI p1), (2, sI p2)] [] ((rec v4 v3 g).bind K)) (v4 : Int32) (v3 : Int32) (g : Hp) : J yX9_comes cX9_comes 6 (some .int) 1 26 X g 15 [(4, sI v4), (3, sI v3), (0, sR p0), (1, sI p1), (2, sI p2)] [] ((f_X9_comes_15_b z p0 p1 p2 rec v4 v3 g).bind K) := by
  unfold f_X9_comes_15_b
  refine j_iload (pc := 15) 0 dX9_comes_15 rfl ?_
  refine j_sipush (pc := 17) (v := 144) dX9_comes_17 (by decide) ?_
  refine j_icmp_ge (pc := 20) (tgt := 96) dX9_comes_20 (by decide) bi (fun hc => ?_) (fun hc => ?_)
  · exact he v4 v3 g
  · refine j_aload_n (pc := 23) 2 dX9_comes_23 rfl rfl ?_
    refine j_iload (pc := 24) 0 dX9_comes_24 rfl ?_
    refine j_callV (pc := 26) (own := RX9) [sI v4] [] dX9_comes_26 lc_X9_137 lv_X9_has rfl (m_X9_has z p0 v4 g) ⟨⟨Nat.le_of_ble_eq_true rfl, Nat.le_of_ble_eq_true rfl⟩, Nat.le_of_ble_eq_true rfl⟩ rfl bb (fun q2r q2g => ?_)
    refine j_if_eq (pc := 29) (tgt := 90) dX9_comes_29 (by decide) bi (fun hc => ?_) (fun hc => ?_)
    · refine j_iinc (pc := 90) (v := (v4 + 1)) (lv' := [(4, sI (v4 + 1)), (3, sI v3), (0, sR p0), (1, sI p1), (2, sI p2)]) 0 dX9_comes_90 rfl rfl (by decide) rfl ?_
      refine j_goto (pc := 93) (tgt := 15) dX9_comes_93 (by decide) ?_
      exact hr (v4 + 1) v3 q2g
    · refine j_iload_n (pc := 32) 4 dX9_comes_32 rfl rfl ?_
      refine J.eq bb ?_
      refine J.jn (σ := Int32) (fun q7 pr => J yX9_comes cX9_comes 6 (some .int) 1 26 X q2g 53 [(4, sI v4), (3, sI v3), (0, sR p0), (1, sI p1), (2, sI p2)] [sI q7] pr) (fun K53 hK53 => ?_) (fun q7 => ?_)
      · refine j_if_eq (pc := 33) (tgt := 46) dX9_comes_33 (by decide) bi (fun hc => ?_) (fun hc => ?_)
        · refine j_aload_n (pc := 46) 2 dX9_comes_46 rfl rfl ?_
          refine j_getR (pc := 47) (own := RX9) dX9_comes_47 lf_X9_57 rfl bb (fun x3 => ?_)
          refine j_iload (pc := 50) 0 dX9_comes_50 rfl ?_
          refine j_aldI (pc := 52) dX9_comes_52 bb (fun x4 => ?_)
          exact hK53 (x4)
        · refine j_aload_n (pc := 36) 2 dX9_comes_36 rfl rfl ?_
          refine j_getR (pc := 37) (own := RX9) dX9_comes_37 lf_X9_60 rfl bb (fun x5 => ?_)
          refine j_iload (pc := 40) 0 dX9_comes_40 rfl ?_
          refine j_aldI (pc := 42) dX9_comes_42 bb (fun x6 => ?_)
          refine j_goto (pc := 43) (tgt := 53) dX9_comes_43 (by decide) ?_
          exact hK53 (x6)
      · refine j_aload_n (pc := 53) 2 dX9_comes_53 rfl rfl ?_
        refine j_iload (pc := 54) 0 dX9_comes_54 rfl ?_
        refine j_aload_n (pc := 56) 2 dX9_comes_56 rfl rfl ?_
        refine j_getR (pc := 57) (own := RX9) dX9_comes_57 lf_X9_27 rfl bb (fun x8 => ?_)
        refine j_iload_n (pc := 60) 3 dX9_comes_60 rfl rfl ?_
        refine j_aldI (pc := 61) dX9_comes_61 bb (fun x9 => ?_)
        refine j_callV (pc := 62) (own := RX9) [sI v4, sI x9] [sI q7] dX9_comes_62 lc_X9_92 lv_X9_travels rfl (m_X9_travels z p0 v4 x9 q2g) ⟨⟨Nat.le_of_ble_eq_true rfl, Nat.le_of_ble_eq_true rfl⟩, Nat.le_of_ble_eq_true rfl⟩ rfl bb (fun q10r q10g => ?_)
        refine j_iadd (pc := 65) dX9_comes_65 ?_
        refine j_istore (pc := 66) (lv' := [(5, sI (q7 + q10r)), (4, sI v4), (3, sI v3), (0, sR p0), (1, sI p1), (2, sI p2)]) dX9_comes_66 (by decide) rfl ?_
        refine j_iload_n (pc := 68) 5 dX9_comes_68 rfl rfl ?_
        refine j_iload (pc := 69) 0 dX9_comes_69 rfl ?_
        refine j_iload_n (pc := 71) 2 dX9_comes_71 rfl rfl ?_
        refine J.eq bb ?_
        refine J.jn (σ := Int32) (fun q11 pr => J yX9_comes cX9_comes 6 (some .int) 1 26 X q10g 80 [(5, sI (q7 + q10r)), (4, sI v4), (3, sI v3), (0, sR p0), (1, sI p1), (2, sI p2)] [sI q11, sI p2] pr) (fun K80 hK80 => ?_) (fun q11 => ?_)
        · refine j_icmp_le (pc := 72) (tgt := 79) dX9_comes_72 (by decide) bi (fun hc => ?_) (fun hc => ?_)
          · refine j_iconst (pc := 79) (v := 0) dX9_comes_79 (by decide) ?_
            exact hK80 (0)
          · refine j_iconst (pc := 75) (v := 1) dX9_comes_75 (by decide) ?_
            refine j_goto (pc := 76) (tgt := 80) dX9_comes_76 (by decide) ?_
            exact hK80 (1)
        · refine j_icmp_ne (pc := 80) (tgt := 88) dX9_comes_80 (by decide) bi (fun hc => ?_) (fun hc => ?_)
          · refine j_iload_n (pc := 88) 2 dX9_comes_88 rfl rfl ?_
            refine j_istore_n (pc := 89) (lv' := [(3, sI v3), (5, sI (q7 + q10r)), (4, sI v4), (0, sR p0), (1, sI p1), (2, sI p2)]) dX9_comes_89 rfl (by decide) rfl ?_
            refine j_iinc (pc := 90) (v := (v4 + 1)) (lv' := [(4, sI (v4 + 1)), (3, sI v3), (5, sI (q7 + q10r)), (0, sR p0), (1, sI p1), (2, sI p2)]) 2 dX9_comes_90 rfl rfl (by decide) rfl ?_
            refine j_goto (pc := 93) (tgt := 15) dX9_comes_93 (by decide) ?_
            refine J.sub [0, 1, 3, 4, 5] rfl ?_
            exact hr (v4 + 1) v3 q10g
          · refine j_iload (pc := 83) 0 dX9_comes_83 rfl ?_
            refine j_goto (pc := 85) (tgt := 89) dX9_comes_85 (by decide) ?_
            refine j_istore_n (pc := 89) (lv' := [(3, sI (q7 + q10r)), (5, sI (q7 + q10r)), (4, sI v4), (0, sR p0), (1, sI p1), (2, sI p2)]) dX9_comes_89 rfl (by decide) rfl ?_
            refine j_iinc (pc := 90) (v := (v4 + 1)) (lv' := [(4, sI (v4 + 1)), (3, sI (q7 + q10r)), (5, sI (q7 + q10r)), (0, sR p0), (1, sI p1), (2, sI p2)]) 2 dX9_comes_90 rfl rfl (by decide) rfl ?_
            refine j_goto (pc := 93) (tgt := 15) dX9_comes_93 (by decide) ?_
            refine J.sub [0, 1, 3, 4, 5] rfl ?_
            exact hr (v4 + 1) (q7 + q10r) q10g
set_option maxRecDepth 20000 in
theorem l_X9_comes_15 {X : Xt Int32} (hX : IsM rtI X) (z : Nat) (p0 : Option Nm) (p1 : Int32) (p2 : Int32) (K : Int32 × Int32 × Hp → Option (Int32 × Hp)) (he : ∀ (v4 : Int32) (v3 : Int32) (g : Hp), J yX9_comes cX9_comes 6 (some .int) 1 26 X g 96 [(4, sI v4), (3, sI v3), (0, sR p0), (1, sI p1), (2, sI p2)] [] (K (v4, v3, g))) : ∀ (n : Nat) (v4 : Int32) (v3 : Int32) (g : Hp), J yX9_comes cX9_comes 6 (some .int) 1 26 X g 15 [(4, sI v4), (3, sI v3), (0, sR p0), (1, sI p1), (2, sI p2)] [] ((f_X9_comes_15_L z p0 p1 p2 n v4 v3 g).bind K)
  | 0, _, _, _ => J.eq rfl J.none
  | n + 1, v4, v3, g => b_X9_comes_15 hX z p0 p1 p2 _ K he (fun v4 v3 g => l_X9_comes_15 hX z p0 p1 p2 K he n v4 v3 g) v4 v3 g
set_option maxRecDepth 20000 in
theorem m_X9_comes (z : Nat) (t : Option Nm) (a0 : Int32) (a1 : Int32) (g : Hp) : FM yX9_comes cX9_comes 6 (some .int) 1 26 rtI [sR t, sI a0, sI a1] g (f_X9_comes z t a0 a1 g) := by
  refine FM.entry (by decide +kernel) (Nat.le_of_ble_eq_true rfl) (fun X hX => ?_)
  unfold f_X9_comes
  show J yX9_comes cX9_comes 6 (some .int) 1 26 X g 0 [(0, sR t), (1, sI a0), (2, sI a1)] [] _
  refine j_iload_n (pc := 0) 2 dX9_comes_0 rfl rfl ?_
  refine J.jn (σ := Int32) (fun q1 pr => J yX9_comes cX9_comes 6 (some .int) 1 26 X g 11 [(0, sR t), (1, sI a0), (2, sI a1)] [sI q1] pr) (fun K11 hK11 => ?_) (fun q1 => ?_)
  · refine j_if_eq (pc := 1) (tgt := 9) dX9_comes_1 (by decide) bi (fun hc => ?_) (fun hc => ?_)
    · refine j_ldc (pc := 9) (own := RX9) (v := 1000000000) dX9_comes_9 rfl lk_X9_113 ?_
      exact hK11 (1000000000)
    · refine j_ldc (pc := 4) (own := RX9) (v := (-1000000000)) dX9_comes_4 rfl lk_X9_112 ?_
      refine j_goto (pc := 6) (tgt := 11) dX9_comes_6 (by decide) ?_
      exact hK11 ((-1000000000))
  · refine j_istore_n (pc := 11) (lv' := [(3, sI q1), (0, sR t), (1, sI a0), (2, sI a1)]) dX9_comes_11 rfl (by decide) rfl ?_
    refine j_iconst (pc := 12) (v := 0) dX9_comes_12 (by decide) ?_
    refine j_istore (pc := 13) (lv' := [(4, sI 0), (3, sI q1), (0, sR t), (1, sI a0), (2, sI a1)]) dX9_comes_13 (by decide) rfl ?_
    refine l_X9_comes_15 hX z t a0 a1 _ (fun q12_0 q12_1 q12_g => ?_) z 0 q1 g
    refine j_iload_n (pc := 96) 1 dX9_comes_96 rfl rfl ?_
    exact j_ireturn dX9_comes_97 hX rfl rfl
/-! X9_late -/
noncomputable def f_X9_late (z : Nat) (t : Option Nm) (a0 : Int32) (a1 : Int32) (g : Hp) : Option (Int32 × Hp) :=
  (ick t 10 (f_X9_areTownAndQuake z t a0 a1 g)).bind fun q1 =>
  if q1.1 = 0 then (some ((-1), q1.2))
  else ((ick t 10 (f_X9_setHeap z t a1 q1.2)).bind fun q2 =>
    if q2.1 = 0 then (some ((-9), q2.2))
    else ((ick t 10 (f_X9_comes z t a0 1 q2.2)).bind fun q3 =>
      (getI t 10 5 q3.2).bind fun x4 =>
      if x4 < q3.1 then ((ick t 10 (f_X9_comes z t a0 0 q3.2)).bind fun q5 =>
        (getI t 10 5 q5.2).bind fun x6 =>
        if q5.1 ≤ x6 then (some (0, q5.2))
        else (some (2, q5.2)))
      else (some (1, q3.2))))
set_option maxRecDepth 20000 in
theorem m_X9_late (z : Nat) (t : Option Nm) (a0 : Int32) (a1 : Int32) (g : Hp) : FM yX9_late cX9_late 3 (some .int) 3 65 rtI [sR t, sI a0, sI a1] g (f_X9_late z t a0 a1 g) := by
  refine FM.entry (by decide +kernel) (Nat.le_of_ble_eq_true rfl) (fun X hX => ?_)
  unfold f_X9_late
  show J yX9_late cX9_late 3 (some .int) 3 65 X g 0 [(0, sR t), (1, sI a0), (2, sI a1)] [] _
  refine j_aload_n (pc := 0) 0 dX9_late_0 rfl rfl ?_
  refine j_iload_n (pc := 1) 1 dX9_late_1 rfl rfl ?_
  refine j_iload_n (pc := 2) 2 dX9_late_2 rfl rfl ?_
  refine j_callV (pc := 3) (own := RX9) [sI a0, sI a1] [] dX9_late_3 lc_X9_156 lv_X9_areTownAndQuake rfl (m_X9_areTownAndQuake z t a0 a1 g) ⟨⟨Nat.le_of_ble_eq_true rfl, Nat.le_of_ble_eq_true rfl⟩, Nat.le_of_ble_eq_true rfl⟩ rfl rfl (fun q1r q1g => ?_)
  refine j_if_ne (pc := 6) (tgt := 11) dX9_late_6 (by decide) rfl (fun hc => ?_) (fun hc => ?_)
  · refine j_aload_n (pc := 11) 0 dX9_late_11 rfl rfl ?_
    refine j_iload_n (pc := 12) 2 dX9_late_12 rfl rfl ?_
    refine j_callV (pc := 13) (own := RX9) [sI a1] [] dX9_late_13 lc_X9_122 lv_X9_setHeap rfl (m_X9_setHeap z t a1 q1g) ⟨⟨Nat.le_of_ble_eq_true rfl, Nat.le_of_ble_eq_true rfl⟩, Nat.le_of_ble_eq_true rfl⟩ rfl rfl (fun q2r q2g => ?_)
    refine j_if_ne (pc := 16) (tgt := 22) dX9_late_16 (by decide) rfl (fun hc => ?_) (fun hc => ?_)
    · refine j_aload_n (pc := 22) 0 dX9_late_22 rfl rfl ?_
      refine j_iload_n (pc := 23) 1 dX9_late_23 rfl rfl ?_
      refine j_iconst (pc := 24) (v := 1) dX9_late_24 (by decide) ?_
      refine j_callV (pc := 25) (own := RX9) [sI a0, sI 1] [] dX9_late_25 lc_X9_169 lv_X9_comes rfl (m_X9_comes z t a0 1 q2g) ⟨⟨Nat.le_of_ble_eq_true rfl, Nat.le_of_ble_eq_true rfl⟩, Nat.le_of_ble_eq_true rfl⟩ rfl rfl (fun q3r q3g => ?_)
      refine j_aload_n (pc := 28) 0 dX9_late_28 rfl rfl ?_
      refine j_getI (pc := 29) (own := RX9) dX9_late_29 lf_X9_97 rfl rfl (fun x4 => ?_)
      refine j_icmp_gt (pc := 32) (tgt := 39) dX9_late_32 (by decide) rfl (fun hc => ?_) (fun hc => ?_)
      · refine j_aload_n (pc := 39) 0 dX9_late_39 rfl rfl ?_
        refine j_iload_n (pc := 40) 1 dX9_late_40 rfl rfl ?_
        refine j_iconst (pc := 41) (v := 0) dX9_late_41 (by decide) ?_
        refine j_callV (pc := 42) (own := RX9) [sI a0, sI 0] [] dX9_late_42 lc_X9_169 lv_X9_comes rfl (m_X9_comes z t a0 0 q3g) ⟨⟨Nat.le_of_ble_eq_true rfl, Nat.le_of_ble_eq_true rfl⟩, Nat.le_of_ble_eq_true rfl⟩ rfl rfl (fun q5r q5g => ?_)
        refine j_aload_n (pc := 45) 0 dX9_late_45 rfl rfl ?_
        refine j_getI (pc := 46) (own := RX9) dX9_late_46 lf_X9_97 rfl rfl (fun x6 => ?_)
        refine j_icmp_le (pc := 49) (tgt := 56) dX9_late_49 (by decide) rfl (fun hc => ?_) (fun hc => ?_)
        · refine j_iconst (pc := 56) (v := 0) dX9_late_56 (by decide) ?_
          exact j_ireturn dX9_late_57 hX rfl rfl
        · refine j_iconst (pc := 52) (v := 2) dX9_late_52 (by decide) ?_
          refine j_goto (pc := 53) (tgt := 57) dX9_late_53 (by decide) ?_
          exact j_ireturn dX9_late_57 hX rfl rfl
      · refine j_iconst (pc := 35) (v := 1) dX9_late_35 (by decide) ?_
        refine j_goto (pc := 36) (tgt := 57) dX9_late_36 (by decide) ?_
        exact j_ireturn dX9_late_57 hX rfl rfl
    · refine j_bipush (pc := 19) (v := (-9)) dX9_late_19 (by decide) ?_
      exact j_ireturn dX9_late_21 hX rfl rfl
  · refine j_iconst (pc := 9) (v := (-1)) dX9_late_9 (by decide) ?_
    exact j_ireturn dX9_late_10 hX rfl rfl
/-! X9_left -/
noncomputable def f_X9_left (z : Nat) (t : Option Nm) (a0 : Int32) (a1 : Int32) (g : Hp) : Option (Int32 × Hp) :=
  (ick t 10 (f_X9_areTownAndQuake z t a0 a1 g)).bind fun q1 =>
  if q1.1 = 0 then (some ((-1), q1.2))
  else ((ick t 10 (f_X9_setHeap z t a1 q1.2)).bind fun q2 =>
    if q2.1 = 0 then (some ((-9), q2.2))
    else ((ick t 10 (f_X9_comes z t a0 0 q2.2)).bind fun q3 =>
      (getI t 10 5 q3.2).bind fun x4 =>
      if q3.1 ≤ x4 then (some (0, q3.2))
      else ((getI t 10 5 q3.2).bind fun x5 =>
        some ((q3.1 - x5), q3.2))))
set_option maxRecDepth 20000 in
theorem m_X9_left (z : Nat) (t : Option Nm) (a0 : Int32) (a1 : Int32) (g : Hp) : FM yX9_left cX9_left 4 (some .int) 3 65 rtI [sR t, sI a0, sI a1] g (f_X9_left z t a0 a1 g) := by
  refine FM.entry (by decide +kernel) (Nat.le_of_ble_eq_true rfl) (fun X hX => ?_)
  unfold f_X9_left
  show J yX9_left cX9_left 4 (some .int) 3 65 X g 0 [(0, sR t), (1, sI a0), (2, sI a1)] [] _
  refine j_aload_n (pc := 0) 0 dX9_left_0 rfl rfl ?_
  refine j_iload_n (pc := 1) 1 dX9_left_1 rfl rfl ?_
  refine j_iload_n (pc := 2) 2 dX9_left_2 rfl rfl ?_
  refine j_callV (pc := 3) (own := RX9) [sI a0, sI a1] [] dX9_left_3 lc_X9_156 lv_X9_areTownAndQuake rfl (m_X9_areTownAndQuake z t a0 a1 g) ⟨⟨Nat.le_of_ble_eq_true rfl, Nat.le_of_ble_eq_true rfl⟩, Nat.le_of_ble_eq_true rfl⟩ rfl rfl (fun q1r q1g => ?_)
  refine j_if_ne (pc := 6) (tgt := 11) dX9_left_6 (by decide) rfl (fun hc => ?_) (fun hc => ?_)
  · refine j_aload_n (pc := 11) 0 dX9_left_11 rfl rfl ?_
    refine j_iload_n (pc := 12) 2 dX9_left_12 rfl rfl ?_
    refine j_callV (pc := 13) (own := RX9) [sI a1] [] dX9_left_13 lc_X9_122 lv_X9_setHeap rfl (m_X9_setHeap z t a1 q1g) ⟨⟨Nat.le_of_ble_eq_true rfl, Nat.le_of_ble_eq_true rfl⟩, Nat.le_of_ble_eq_true rfl⟩ rfl rfl (fun q2r q2g => ?_)
    refine j_if_ne (pc := 16) (tgt := 22) dX9_left_16 (by decide) rfl (fun hc => ?_) (fun hc => ?_)
    · refine j_aload_n (pc := 22) 0 dX9_left_22 rfl rfl ?_
      refine j_iload_n (pc := 23) 1 dX9_left_23 rfl rfl ?_
      refine j_iconst (pc := 24) (v := 0) dX9_left_24 (by decide) ?_
      refine j_callV (pc := 25) (own := RX9) [sI a0, sI 0] [] dX9_left_25 lc_X9_169 lv_X9_comes rfl (m_X9_comes z t a0 0 q2g) ⟨⟨Nat.le_of_ble_eq_true rfl, Nat.le_of_ble_eq_true rfl⟩, Nat.le_of_ble_eq_true rfl⟩ rfl rfl (fun q3r q3g => ?_)
      refine j_istore_n (pc := 28) (lv' := [(3, sI q3r), (0, sR t), (1, sI a0), (2, sI a1)]) dX9_left_28 rfl (by decide) rfl ?_
      refine j_iload_n (pc := 29) 0 dX9_left_29 rfl rfl ?_
      refine j_aload_n (pc := 30) 1 dX9_left_30 rfl rfl ?_
      refine j_getI (pc := 31) (own := RX9) dX9_left_31 lf_X9_97 rfl rfl (fun x4 => ?_)
      refine j_icmp_le (pc := 34) (tgt := 46) dX9_left_34 (by decide) rfl (fun hc => ?_) (fun hc => ?_)
      · refine j_iconst (pc := 46) (v := 0) dX9_left_46 (by decide) ?_
        exact j_ireturn dX9_left_47 hX rfl rfl
      · refine j_iload_n (pc := 37) 0 dX9_left_37 rfl rfl ?_
        refine j_aload_n (pc := 38) 1 dX9_left_38 rfl rfl ?_
        refine j_getI (pc := 39) (own := RX9) dX9_left_39 lf_X9_97 rfl rfl (fun x5 => ?_)
        refine j_isub (pc := 42) dX9_left_42 ?_
        refine j_goto (pc := 43) (tgt := 47) dX9_left_43 (by decide) ?_
        exact j_ireturn dX9_left_47 hX rfl rfl
    · refine j_bipush (pc := 19) (v := (-9)) dX9_left_19 (by decide) ?_
      exact j_ireturn dX9_left_21 hX rfl rfl
  · refine j_iconst (pc := 9) (v := (-1)) dX9_left_9 (by decide) ?_
    exact j_ireturn dX9_left_10 hX rfl rfl
/-! X9_asked -/
noncomputable def f_X9_asked (z : Nat) (t : Option Nm) (g : Hp) : Option (Int32 × Hp) :=
  (getI t 10 2 g).bind fun x1 =>
  some (x1, g)
set_option maxRecDepth 20000 in
theorem m_X9_asked (z : Nat) (t : Option Nm) (g : Hp) : FM yX9_asked cX9_asked 1 (some .int) 0 0 rtI [sR t] g (f_X9_asked z t g) := by
  refine FM.entry (by decide +kernel) (Nat.le_of_ble_eq_true rfl) (fun X hX => ?_)
  unfold f_X9_asked
  show J yX9_asked cX9_asked 1 (some .int) 0 0 X g 0 [(0, sR t)] [] _
  refine j_aload_n (pc := 0) 0 dX9_asked_0 rfl rfl ?_
  refine j_getI (pc := 1) (own := RX9) dX9_asked_1 lf_X9_105 rfl rfl (fun x1 => ?_)
  exact j_ireturn dX9_asked_4 hX rfl rfl
/-! X9_count -/
noncomputable def f_X9_count (z : Nat) (t : Option Nm) (a0 : Int32) (g : Hp) : Option (Int32 × Hp) :=
  tsw a0 [0, 1, 2, 3, 4, 5] [
    ((getI t 10 6 g).bind fun x1 =>
      some (x1, g)),
    ((getI t 10 9 g).bind fun x2 =>
      some (x2, g)),
    ((getI t 10 15 g).bind fun x3 =>
      some (x3, g)),
    ((getI t 10 20 g).bind fun x4 =>
      some (x4, g)),
    ((getI t 10 24 g).bind fun x5 =>
      some (x5, g)),
    ((getI t 10 5 g).bind fun x6 =>
      some (x6, g))]
    (some ((-1), g))
set_option maxRecDepth 20000 in
theorem m_X9_count (z : Nat) (t : Option Nm) (a0 : Int32) (g : Hp) : FM yX9_count cX9_count 2 (some .int) 0 0 rtI [sR t, sI a0] g (f_X9_count z t a0 g) := by
  refine FM.entry (by decide +kernel) (Nat.le_of_ble_eq_true rfl) (fun X hX => ?_)
  unfold f_X9_count
  show J yX9_count cX9_count 2 (some .int) 0 0 X g 0 [(0, sR t), (1, sI a0)] [] _
  refine j_iload_n (pc := 0) 1 dX9_count_0 rfl rfl ?_
  refine j_tsw (ts := [40, 45, 50, 55, 60, 65]) (td := 70) dX9_count_1 (by decide) (by decide) (by decide) (by decide) (by decide) rfl ?_ ⟨?_, ?_, ?_, ?_, ?_, ?_, trivial⟩
  · refine j_iconst (pc := 70) (v := (-1)) dX9_count_70 (by decide) ?_
    exact j_ireturn dX9_count_71 hX rfl rfl
  · refine j_aload_n (pc := 40) 0 dX9_count_40 rfl rfl ?_
    refine j_getI (pc := 41) (own := RX9) dX9_count_41 lf_X9_83 rfl rfl (fun x1 => ?_)
    exact j_ireturn dX9_count_44 hX rfl rfl
  · refine j_aload_n (pc := 45) 0 dX9_count_45 rfl rfl ?_
    refine j_getI (pc := 46) (own := RX9) dX9_count_46 lf_X9_86 rfl rfl (fun x2 => ?_)
    exact j_ireturn dX9_count_49 hX rfl rfl
  · refine j_aload_n (pc := 50) 0 dX9_count_50 rfl rfl ?_
    refine j_getI (pc := 51) (own := RX9) dX9_count_51 lf_X9_76 rfl rfl (fun x3 => ?_)
    exact j_ireturn dX9_count_54 hX rfl rfl
  · refine j_aload_n (pc := 55) 0 dX9_count_55 rfl rfl ?_
    refine j_getI (pc := 56) (own := RX9) dX9_count_56 lf_X9_119 rfl rfl (fun x4 => ?_)
    exact j_ireturn dX9_count_59 hX rfl rfl
  · refine j_aload_n (pc := 60) 0 dX9_count_60 rfl rfl ?_
    refine j_getI (pc := 61) (own := RX9) dX9_count_61 lf_X9_162 rfl rfl (fun x5 => ?_)
    exact j_ireturn dX9_count_64 hX rfl rfl
  · refine j_aload_n (pc := 65) 0 dX9_count_65 rfl rfl ?_
    refine j_getI (pc := 66) (own := RX9) dX9_count_66 lf_X9_97 rfl rfl (fun x6 => ?_)
    exact j_ireturn dX9_count_69 hX rfl rfl
/-! X9_finding -/
noncomputable def f_X9_finding (z : Nat) (t : Option Nm) (g : Hp) : Option (Int32 × Hp) :=
  (getI t 10 0 g).bind fun x1 =>
  some (x1, g)
set_option maxRecDepth 20000 in
theorem m_X9_finding (z : Nat) (t : Option Nm) (g : Hp) : FM yX9_finding cX9_finding 1 (some .int) 0 0 rtI [sR t] g (f_X9_finding z t g) := by
  refine FM.entry (by decide +kernel) (Nat.le_of_ble_eq_true rfl) (fun X hX => ?_)
  unfold f_X9_finding
  show J yX9_finding cX9_finding 1 (some .int) 0 0 X g 0 [(0, sR t)] [] _
  refine j_aload_n (pc := 0) 0 dX9_finding_0 rfl rfl ?_
  refine j_getI (pc := 1) (own := RX9) dX9_finding_1 lf_X9_69 rfl rfl (fun x1 => ?_)
  exact j_ireturn dX9_finding_4 hX rfl rfl
/-! X9_findings -/
noncomputable def f_X9_findings (z : Nat) (t : Option Nm) (a0 : Int32) (g : Hp) : Option (Int32 × Hp) :=
  (f_X9_in z a0 1 5 g).bind fun q1 =>
  if q1.1 = 0 then (some ((-1), q1.2))
  else ((getR t 10 1 q1.2).bind fun x2 =>
    (aldI x2 a0 q1.2).bind fun x3 =>
    some (x3, q1.2))
set_option maxRecDepth 20000 in
theorem m_X9_findings (z : Nat) (t : Option Nm) (a0 : Int32) (g : Hp) : FM yX9_findings cX9_findings 2 (some .int) 1 22 rtI [sR t, sI a0] g (f_X9_findings z t a0 g) := by
  refine FM.entry (by decide +kernel) (Nat.le_of_ble_eq_true rfl) (fun X hX => ?_)
  unfold f_X9_findings
  show J yX9_findings cX9_findings 2 (some .int) 1 22 X g 0 [(0, sR t), (1, sI a0)] [] _
  refine j_iload_n (pc := 0) 1 dX9_findings_0 rfl rfl ?_
  refine j_iconst (pc := 1) (v := 1) dX9_findings_1 (by decide) ?_
  refine j_iconst (pc := 2) (v := 5) dX9_findings_2 (by decide) ?_
  refine j_callS (pc := 3) (own := RX9) [sI a0, sI 1, sI 5] [] dX9_findings_3 lc_X9_72 ls_X9_in rfl (m_X9_in z a0 1 5 g) ⟨⟨Nat.le_of_ble_eq_true rfl, Nat.le_of_ble_eq_true rfl⟩, Nat.le_of_ble_eq_true rfl⟩ rfl rfl (fun q1r q1g => ?_)
  refine j_if_eq (pc := 6) (tgt := 18) dX9_findings_6 (by decide) rfl (fun hc => ?_) (fun hc => ?_)
  · refine j_iconst (pc := 18) (v := (-1)) dX9_findings_18 (by decide) ?_
    exact j_ireturn dX9_findings_19 hX rfl rfl
  · refine j_aload_n (pc := 9) 0 dX9_findings_9 rfl rfl ?_
    refine j_getR (pc := 10) (own := RX9) dX9_findings_10 lf_X9_7 rfl rfl (fun x2 => ?_)
    refine j_iload_n (pc := 13) 1 dX9_findings_13 rfl rfl ?_
    refine j_aldI (pc := 14) dX9_findings_14 rfl (fun x3 => ?_)
    refine j_goto (pc := 15) (tgt := 19) dX9_findings_15 (by decide) ?_
    exact j_ireturn dX9_findings_19 hX rfl rfl
/-! X9_digest -/
noncomputable def f_X9_digest_50_b (z : Nat) (p3 : Int32) (p0 : Option Nm) (rec : Int32 → Int64 → Hp → Option (Int32 × Int64 × Hp)) (v4 : Int32) (v1 : Int64) (g : Hp) : Option (Int32 × Int64 × Hp) :=
  (getR p0 10 11 g).bind fun x8 =>
  (aldI x8 p3 g).bind fun x9 =>
  if x9 ≤ v4 then (some (v4, v1, g))
  else ((getR p0 10 12 g).bind fun x10 =>
    (aldI x10 ((30 * p3) + v4) g).bind fun x11 =>
    rec (v4 + 1) ((31 * v1) + (x11 : Int32).toInt64) g)
noncomputable def f_X9_digest_50_L (z : Nat) (p3 : Int32) (p0 : Option Nm) : Nat → Int32 → Int64 → Hp → Option (Int32 × Int64 × Hp)
  | 0, _, _, _ => none
  | n + 1, v4, v1, g => f_X9_digest_50_b z p3 p0 (f_X9_digest_50_L z p3 p0 n) v4 v1 g
noncomputable def f_X9_digest_12_b (z : Nat) (p0 : Option Nm) (rec : Int32 → Int64 → Hp → Option (Int32 × Int64 × Hp)) (v3 : Int32) (v1 : Int64) (g : Hp) : Option (Int32 × Int64 × Hp) :=
  (getI p0 10 6 g).bind fun x2 =>
  if x2 ≤ v3 then (some (v3, v1, g))
  else ((getR p0 10 11 g).bind fun x3 =>
    (aldI x3 v3 g).bind fun x4 =>
    ((if 0 ≤ x4 then ((getR p0 10 11 g).bind fun x5 =>
        (aldI x5 v3 g).bind fun x6 =>
        some (x6))
      else (some ((-1)))) : Option (Int32)).bind fun q7 =>
    (f_X9_digest_50_L z v3 p0 z 0 ((31 * v1) + (q7 : Int32).toInt64) g).bind fun q12 =>
    rec (v3 + 1) q12.2.1 q12.2.2)
noncomputable def f_X9_digest_12_L (z : Nat) (p0 : Option Nm) : Nat → Int32 → Int64 → Hp → Option (Int32 × Int64 × Hp)
  | 0, _, _, _ => none
  | n + 1, v3, v1, g => f_X9_digest_12_b z p0 (f_X9_digest_12_L z p0 n) v3 v1 g
noncomputable def f_X9_digest_106_b (z : Nat) (p3 : Int32) (p0 : Option Nm) (rec : Int32 → Int64 → Hp → Option (Int32 × Int64 × Hp)) (v4 : Int32) (v1 : Int64) (g : Hp) : Option (Int32 × Int64 × Hp) :=
  if 4 < v4 then (some (v4, v1, g))
  else ((ick p0 10 (f_X9_tells z p0 p3 v4 g)).bind fun q15 =>
    rec (v4 + 1) ((31 * v1) + (q15.1 : Int32).toInt64) q15.2)
noncomputable def f_X9_digest_106_L (z : Nat) (p3 : Int32) (p0 : Option Nm) : Nat → Int32 → Int64 → Hp → Option (Int32 × Int64 × Hp)
  | 0, _, _, _ => none
  | n + 1, v4, v1, g => f_X9_digest_106_b z p3 p0 (f_X9_digest_106_L z p3 p0 n) v4 v1 g
noncomputable def f_X9_digest_95_b (z : Nat) (p0 : Option Nm) (rec : Int32 → Int64 → Hp → Option (Int32 × Int64 × Hp)) (v3 : Int32) (v1 : Int64) (g : Hp) : Option (Int32 × Int64 × Hp) :=
  (getI p0 10 15 g).bind fun x14 =>
  if x14 ≤ v3 then (some (v3, v1, g))
  else ((f_X9_digest_106_L z v3 p0 z 0 v1 g).bind fun q16 =>
    rec (v3 + 1) q16.2.1 q16.2.2)
noncomputable def f_X9_digest_95_L (z : Nat) (p0 : Option Nm) : Nat → Int32 → Int64 → Hp → Option (Int32 × Int64 × Hp)
  | 0, _, _, _ => none
  | n + 1, v3, v1, g => f_X9_digest_95_b z p0 (f_X9_digest_95_L z p0 n) v3 v1 g
noncomputable def f_X9_digest_152_b (z : Nat) (p3 : Int32) (p0 : Option Nm) (rec : Int32 → Int64 → Hp → Option (Int32 × Int64 × Hp)) (v4 : Int32) (v1 : Int64) (g : Hp) : Option (Int32 × Int64 × Hp) :=
  if 4 < v4 then (some (v4, v1, g))
  else ((ick p0 10 (f_X9_tellsQuake z p0 p3 v4 g)).bind fun q19 =>
    rec (v4 + 1) ((31 * v1) + (q19.1 : Int32).toInt64) q19.2)
noncomputable def f_X9_digest_152_L (z : Nat) (p3 : Int32) (p0 : Option Nm) : Nat → Int32 → Int64 → Hp → Option (Int32 × Int64 × Hp)
  | 0, _, _, _ => none
  | n + 1, v4, v1, g => f_X9_digest_152_b z p3 p0 (f_X9_digest_152_L z p3 p0 n) v4 v1 g
noncomputable def f_X9_digest_141_b (z : Nat) (p0 : Option Nm) (rec : Int32 → Int64 → Hp → Option (Int32 × Int64 × Hp)) (v3 : Int32) (v1 : Int64) (g : Hp) : Option (Int32 × Int64 × Hp) :=
  (getI p0 10 20 g).bind fun x18 =>
  if x18 ≤ v3 then (some (v3, v1, g))
  else ((f_X9_digest_152_L z v3 p0 z 0 v1 g).bind fun q20 =>
    rec (v3 + 1) q20.2.1 q20.2.2)
noncomputable def f_X9_digest_141_L (z : Nat) (p0 : Option Nm) : Nat → Int32 → Int64 → Hp → Option (Int32 × Int64 × Hp)
  | 0, _, _, _ => none
  | n + 1, v3, v1, g => f_X9_digest_141_b z p0 (f_X9_digest_141_L z p0 n) v3 v1 g
noncomputable def f_X9_digest_187_b (z : Nat) (p0 : Option Nm) (rec : Int32 → Int64 → Hp → Option (Int32 × Int64 × Hp)) (v3 : Int32) (v1 : Int64) (g : Hp) : Option (Int32 × Int64 × Hp) :=
  (getI p0 10 24 g).bind fun x22 =>
  if (4 * x22) ≤ v3 then (some (v3, v1, g))
  else (if 1600 ≤ v3 then (some (v3, v1, g))
    else ((getR p0 10 25 g).bind fun x23 =>
      (aldI x23 v3 g).bind fun x24 =>
      rec (v3 + 1) ((31 * v1) + (x24 : Int32).toInt64) g))
noncomputable def f_X9_digest_187_L (z : Nat) (p0 : Option Nm) : Nat → Int32 → Int64 → Hp → Option (Int32 × Int64 × Hp)
  | 0, _, _, _ => none
  | n + 1, v3, v1, g => f_X9_digest_187_b z p0 (f_X9_digest_187_L z p0 n) v3 v1 g
noncomputable def f_X9_digest (z : Nat) (t : Option Nm) (g : Hp) : Option (Int64 × Hp) :=
  (getI t 10 5 g).bind fun x1 =>
  (f_X9_digest_12_L z t z 0 (527 + (x1 : Int32).toInt64) g).bind fun q13 =>
  (f_X9_digest_95_L z t z 0 q13.2.1 q13.2.2).bind fun q17 =>
  (f_X9_digest_141_L z t z 0 q17.2.1 q17.2.2).bind fun q21 =>
  (f_X9_digest_187_L z t z 0 q21.2.1 q21.2.2).bind fun q25 =>
  some (q25.2.1, q25.2.2)
set_option maxRecDepth 20000 in
theorem b_X9_digest_50 {X : Xt Int64} (hX : IsM rtL X) (z : Nat) (p3 : Int32) (p0 : Option Nm) (rec : Int32 → Int64 → Hp → Option (Int32 × Int64 × Hp)) (K : Int32 × Int64 × Hp → Option (Int64 × Hp)) (he : ∀ (v4 : Int32) (v1 : Int64) (g : Hp), J yX9_digest cX9_digest 5 (some .long) 4 99 X g 87 [(4, sI v4), (1, sL v1), (3, sI p3), (0, sR p0)] [] (K (v4, v1, g))) (hr : ∀ (v4 : Int32) (v1 : Int64) (g : Hp), J yX9_digest cX9_digest 5 (some .long) 4 99 X g 50 [(4, sI v4), (1, sL v1), (3, sI p3), (0, sR p0)] [] ((rec v4 v1 g).bind K)) (v4 : Int32) (v1 : Int64) (g : Hp) : J yX9_digest cX9_digest 5 (some .long) 4 99 X g 50 [(4, sI v4), (1, sL v1), (3, sI p3), (0, sR p0)] [] ((f_X9_digest_50_b z p3 p0 rec v4 v1 g).bind K) := by
  unfold f_X9_digest_50_b
  refine j_iload (pc := 50) 0 dX9_digest_50 rfl ?_
  refine j_aload_n (pc := 52) 3 dX9_digest_52 rfl rfl ?_
  refine j_getR (pc := 53) (own := RX9) dX9_digest_53 lf_X9_30 rfl bb (fun x8 => ?_)
  refine j_iload_n (pc := 56) 2 dX9_digest_56 rfl rfl ?_
  refine j_aldI (pc := 57) dX9_digest_57 bb (fun x9 => ?_)
  refine j_icmp_ge (pc := 58) (tgt := 87) dX9_digest_58 (by decide) bi (fun hc => ?_) (fun hc => ?_)
  · exact he v4 v1 g
  · refine j_ldc2 (pc := 61) (own := RX9) (v := 31) dX9_digest_61 rfl lk_X9_174 ?_
    refine j_lload_n (pc := 64) 1 dX9_digest_64 rfl rfl ?_
    refine j_lmul (pc := 65) dX9_digest_65 ?_
    refine j_aload_n (pc := 66) 3 dX9_digest_66 rfl rfl ?_
    refine j_getR (pc := 67) (own := RX9) dX9_digest_67 lf_X9_33 rfl bb (fun x10 => ?_)
    refine j_bipush (pc := 70) (v := 30) dX9_digest_70 (by decide) ?_
    refine j_iload_n (pc := 72) 2 dX9_digest_72 rfl rfl ?_
    refine j_imul (pc := 73) dX9_digest_73 ?_
    refine j_iload (pc := 74) 0 dX9_digest_74 rfl ?_
    refine j_iadd (pc := 76) dX9_digest_76 ?_
    refine j_aldI (pc := 77) dX9_digest_77 bb (fun x11 => ?_)
    refine j_i2l (pc := 78) dX9_digest_78 ?_
    refine j_ladd (pc := 79) dX9_digest_79 ?_
    refine j_lstore_n (pc := 80) (lv' := [(1, sL ((31 * v1) + (x11 : Int32).toInt64)), (4, sI v4), (3, sI p3), (0, sR p0)]) dX9_digest_80 rfl (by decide) rfl ?_
    refine j_iinc (pc := 81) (v := (v4 + 1)) (lv' := [(4, sI (v4 + 1)), (1, sL ((31 * v1) + (x11 : Int32).toInt64)), (3, sI p3), (0, sR p0)]) 1 dX9_digest_81 rfl rfl (by decide) rfl ?_
    refine j_goto (pc := 84) (tgt := 50) dX9_digest_84 (by decide) ?_
    exact hr (v4 + 1) ((31 * v1) + (x11 : Int32).toInt64) g
set_option maxRecDepth 20000 in
theorem l_X9_digest_50 {X : Xt Int64} (hX : IsM rtL X) (z : Nat) (p3 : Int32) (p0 : Option Nm) (K : Int32 × Int64 × Hp → Option (Int64 × Hp)) (he : ∀ (v4 : Int32) (v1 : Int64) (g : Hp), J yX9_digest cX9_digest 5 (some .long) 4 99 X g 87 [(4, sI v4), (1, sL v1), (3, sI p3), (0, sR p0)] [] (K (v4, v1, g))) : ∀ (n : Nat) (v4 : Int32) (v1 : Int64) (g : Hp), J yX9_digest cX9_digest 5 (some .long) 4 99 X g 50 [(4, sI v4), (1, sL v1), (3, sI p3), (0, sR p0)] [] ((f_X9_digest_50_L z p3 p0 n v4 v1 g).bind K)
  | 0, _, _, _ => J.eq rfl J.none
  | n + 1, v4, v1, g => b_X9_digest_50 hX z p3 p0 _ K he (fun v4 v1 g => l_X9_digest_50 hX z p3 p0 K he n v4 v1 g) v4 v1 g
set_option maxRecDepth 20000 in
theorem b_X9_digest_12 {X : Xt Int64} (hX : IsM rtL X) (z : Nat) (p0 : Option Nm) (rec : Int32 → Int64 → Hp → Option (Int32 × Int64 × Hp)) (K : Int32 × Int64 × Hp → Option (Int64 × Hp)) (he : ∀ (v3 : Int32) (v1 : Int64) (g : Hp), J yX9_digest cX9_digest 5 (some .long) 4 99 X g 93 [(3, sI v3), (1, sL v1), (0, sR p0)] [] (K (v3, v1, g))) (hr : ∀ (v3 : Int32) (v1 : Int64) (g : Hp), J yX9_digest cX9_digest 5 (some .long) 4 99 X g 12 [(3, sI v3), (1, sL v1), (0, sR p0)] [] ((rec v3 v1 g).bind K)) (v3 : Int32) (v1 : Int64) (g : Hp) : J yX9_digest cX9_digest 5 (some .long) 4 99 X g 12 [(3, sI v3), (1, sL v1), (0, sR p0)] [] ((f_X9_digest_12_b z p0 rec v3 v1 g).bind K) := by
  unfold f_X9_digest_12_b
  refine j_iload_n (pc := 12) 0 dX9_digest_12 rfl rfl ?_
  refine j_aload_n (pc := 13) 2 dX9_digest_13 rfl rfl ?_
  refine j_getI (pc := 14) (own := RX9) dX9_digest_14 lf_X9_83 rfl bb (fun x2 => ?_)
  refine j_icmp_ge (pc := 17) (tgt := 93) dX9_digest_17 (by decide) bi (fun hc => ?_) (fun hc => ?_)
  · exact he v3 v1 g
  · refine j_ldc2 (pc := 20) (own := RX9) (v := 31) dX9_digest_20 rfl lk_X9_174 ?_
    refine j_lload_n (pc := 23) 1 dX9_digest_23 rfl rfl ?_
    refine j_lmul (pc := 24) dX9_digest_24 ?_
    refine j_aload_n (pc := 25) 2 dX9_digest_25 rfl rfl ?_
    refine j_getR (pc := 26) (own := RX9) dX9_digest_26 lf_X9_30 rfl bb (fun x3 => ?_)
    refine j_iload_n (pc := 29) 0 dX9_digest_29 rfl rfl ?_
    refine j_aldI (pc := 30) dX9_digest_30 bb (fun x4 => ?_)
    refine J.eq bb ?_
    refine J.jn (σ := Int32) (fun q7 pr => J yX9_digest cX9_digest 5 (some .long) 4 99 X g 44 [(3, sI v3), (1, sL v1), (0, sR p0)] [sI q7, sL (31 * v1)] pr) (fun K44 hK44 => ?_) (fun q7 => ?_)
    · refine j_if_ge (pc := 31) (tgt := 38) dX9_digest_31 (by decide) bi (fun hc => ?_) (fun hc => ?_)
      · refine j_aload_n (pc := 38) 2 dX9_digest_38 rfl rfl ?_
        refine j_getR (pc := 39) (own := RX9) dX9_digest_39 lf_X9_30 rfl bb (fun x5 => ?_)
        refine j_iload_n (pc := 42) 0 dX9_digest_42 rfl rfl ?_
        refine j_aldI (pc := 43) dX9_digest_43 bb (fun x6 => ?_)
        exact hK44 (x6)
      · refine j_iconst (pc := 34) (v := (-1)) dX9_digest_34 (by decide) ?_
        refine j_goto (pc := 35) (tgt := 44) dX9_digest_35 (by decide) ?_
        exact hK44 ((-1))
    · refine j_i2l (pc := 44) dX9_digest_44 ?_
      refine j_ladd (pc := 45) dX9_digest_45 ?_
      refine j_lstore_n (pc := 46) (lv' := [(1, sL ((31 * v1) + (q7 : Int32).toInt64)), (3, sI v3), (0, sR p0)]) dX9_digest_46 rfl (by decide) rfl ?_
      refine j_iconst (pc := 47) (v := 0) dX9_digest_47 (by decide) ?_
      refine j_istore (pc := 48) (lv' := [(4, sI 0), (1, sL ((31 * v1) + (q7 : Int32).toInt64)), (3, sI v3), (0, sR p0)]) dX9_digest_48 (by decide) rfl ?_
      refine J.eq bb ?_
      refine l_X9_digest_50 hX z v3 p0 _ (fun q12_0 q12_1 q12_g => ?_) z 0 ((31 * v1) + (q7 : Int32).toInt64) g
      refine j_iinc (pc := 87) (v := (v3 + 1)) (lv' := [(3, sI (v3 + 1)), (4, sI q12_0), (1, sL q12_1), (0, sR p0)]) 2 dX9_digest_87 rfl rfl (by decide) rfl ?_
      refine j_goto (pc := 90) (tgt := 12) dX9_digest_90 (by decide) ?_
      refine J.sub [0, 2, 3] rfl ?_
      exact hr (v3 + 1) q12_1 q12_g
set_option maxRecDepth 20000 in
theorem l_X9_digest_12 {X : Xt Int64} (hX : IsM rtL X) (z : Nat) (p0 : Option Nm) (K : Int32 × Int64 × Hp → Option (Int64 × Hp)) (he : ∀ (v3 : Int32) (v1 : Int64) (g : Hp), J yX9_digest cX9_digest 5 (some .long) 4 99 X g 93 [(3, sI v3), (1, sL v1), (0, sR p0)] [] (K (v3, v1, g))) : ∀ (n : Nat) (v3 : Int32) (v1 : Int64) (g : Hp), J yX9_digest cX9_digest 5 (some .long) 4 99 X g 12 [(3, sI v3), (1, sL v1), (0, sR p0)] [] ((f_X9_digest_12_L z p0 n v3 v1 g).bind K)
  | 0, _, _, _ => J.eq rfl J.none
  | n + 1, v3, v1, g => b_X9_digest_12 hX z p0 _ K he (fun v3 v1 g => l_X9_digest_12 hX z p0 K he n v3 v1 g) v3 v1 g
set_option maxRecDepth 20000 in
theorem b_X9_digest_106 {X : Xt Int64} (hX : IsM rtL X) (z : Nat) (p3 : Int32) (p0 : Option Nm) (rec : Int32 → Int64 → Hp → Option (Int32 × Int64 × Hp)) (K : Int32 × Int64 × Hp → Option (Int64 × Hp)) (he : ∀ (v4 : Int32) (v1 : Int64) (g : Hp), J yX9_digest cX9_digest 5 (some .long) 4 99 X g 133 [(4, sI v4), (3, sI p3), (1, sL v1), (0, sR p0)] [] (K (v4, v1, g))) (hr : ∀ (v4 : Int32) (v1 : Int64) (g : Hp), J yX9_digest cX9_digest 5 (some .long) 4 99 X g 106 [(4, sI v4), (3, sI p3), (1, sL v1), (0, sR p0)] [] ((rec v4 v1 g).bind K)) (v4 : Int32) (v1 : Int64) (g : Hp) : J yX9_digest cX9_digest 5 (some .long) 4 99 X g 106 [(4, sI v4), (3, sI p3), (1, sL v1), (0, sR p0)] [] ((f_X9_digest_106_b z p3 p0 rec v4 v1 g).bind K) := by
  unfold f_X9_digest_106_b
  refine j_iload (pc := 106) 0 dX9_digest_106 rfl ?_
  refine j_iconst (pc := 108) (v := 4) dX9_digest_108 (by decide) ?_
  refine j_icmp_gt (pc := 109) (tgt := 133) dX9_digest_109 (by decide) bi (fun hc => ?_) (fun hc => ?_)
  · exact he v4 v1 g
  · refine j_ldc2 (pc := 112) (own := RX9) (v := 31) dX9_digest_112 rfl lk_X9_174 ?_
    refine j_lload_n (pc := 115) 2 dX9_digest_115 rfl rfl ?_
    refine j_lmul (pc := 116) dX9_digest_116 ?_
    refine j_aload_n (pc := 117) 3 dX9_digest_117 rfl rfl ?_
    refine j_iload_n (pc := 118) 1 dX9_digest_118 rfl rfl ?_
    refine j_iload (pc := 119) 0 dX9_digest_119 rfl ?_
    refine j_callV (pc := 121) (own := RX9) [sI p3, sI v4] [sL (31 * v1)] dX9_digest_121 lc_X9_131 lv_X9_tells rfl (m_X9_tells z p0 p3 v4 g) ⟨⟨Nat.le_of_ble_eq_true rfl, Nat.le_of_ble_eq_true rfl⟩, Nat.le_of_ble_eq_true rfl⟩ rfl bb (fun q15r q15g => ?_)
    refine j_i2l (pc := 124) dX9_digest_124 ?_
    refine j_ladd (pc := 125) dX9_digest_125 ?_
    refine j_lstore_n (pc := 126) (lv' := [(1, sL ((31 * v1) + (q15r : Int32).toInt64)), (4, sI v4), (3, sI p3), (0, sR p0)]) dX9_digest_126 rfl (by decide) rfl ?_
    refine j_iinc (pc := 127) (v := (v4 + 1)) (lv' := [(4, sI (v4 + 1)), (1, sL ((31 * v1) + (q15r : Int32).toInt64)), (3, sI p3), (0, sR p0)]) 1 dX9_digest_127 rfl rfl (by decide) rfl ?_
    refine j_goto (pc := 130) (tgt := 106) dX9_digest_130 (by decide) ?_
    refine J.sub [0, 2, 1, 3] rfl ?_
    exact hr (v4 + 1) ((31 * v1) + (q15r : Int32).toInt64) q15g
set_option maxRecDepth 20000 in
theorem l_X9_digest_106 {X : Xt Int64} (hX : IsM rtL X) (z : Nat) (p3 : Int32) (p0 : Option Nm) (K : Int32 × Int64 × Hp → Option (Int64 × Hp)) (he : ∀ (v4 : Int32) (v1 : Int64) (g : Hp), J yX9_digest cX9_digest 5 (some .long) 4 99 X g 133 [(4, sI v4), (3, sI p3), (1, sL v1), (0, sR p0)] [] (K (v4, v1, g))) : ∀ (n : Nat) (v4 : Int32) (v1 : Int64) (g : Hp), J yX9_digest cX9_digest 5 (some .long) 4 99 X g 106 [(4, sI v4), (3, sI p3), (1, sL v1), (0, sR p0)] [] ((f_X9_digest_106_L z p3 p0 n v4 v1 g).bind K)
  | 0, _, _, _ => J.eq rfl J.none
  | n + 1, v4, v1, g => b_X9_digest_106 hX z p3 p0 _ K he (fun v4 v1 g => l_X9_digest_106 hX z p3 p0 K he n v4 v1 g) v4 v1 g
set_option maxRecDepth 20000 in
theorem b_X9_digest_95 {X : Xt Int64} (hX : IsM rtL X) (z : Nat) (p0 : Option Nm) (rec : Int32 → Int64 → Hp → Option (Int32 × Int64 × Hp)) (K : Int32 × Int64 × Hp → Option (Int64 × Hp)) (he : ∀ (v3 : Int32) (v1 : Int64) (g : Hp), J yX9_digest cX9_digest 5 (some .long) 4 99 X g 139 [(3, sI v3), (1, sL v1), (0, sR p0)] [] (K (v3, v1, g))) (hr : ∀ (v3 : Int32) (v1 : Int64) (g : Hp), J yX9_digest cX9_digest 5 (some .long) 4 99 X g 95 [(3, sI v3), (1, sL v1), (0, sR p0)] [] ((rec v3 v1 g).bind K)) (v3 : Int32) (v1 : Int64) (g : Hp) : J yX9_digest cX9_digest 5 (some .long) 4 99 X g 95 [(3, sI v3), (1, sL v1), (0, sR p0)] [] ((f_X9_digest_95_b z p0 rec v3 v1 g).bind K) := by
  unfold f_X9_digest_95_b
  refine j_iload_n (pc := 95) 0 dX9_digest_95 rfl rfl ?_
  refine j_aload_n (pc := 96) 2 dX9_digest_96 rfl rfl ?_
  refine j_getI (pc := 97) (own := RX9) dX9_digest_97 lf_X9_76 rfl bb (fun x14 => ?_)
  refine j_icmp_ge (pc := 100) (tgt := 139) dX9_digest_100 (by decide) bi (fun hc => ?_) (fun hc => ?_)
  · exact he v3 v1 g
  · refine j_iconst (pc := 103) (v := 0) dX9_digest_103 (by decide) ?_
    refine j_istore (pc := 104) (lv' := [(4, sI 0), (3, sI v3), (1, sL v1), (0, sR p0)]) dX9_digest_104 (by decide) rfl ?_
    refine J.eq bb ?_
    refine l_X9_digest_106 hX z v3 p0 _ (fun q16_0 q16_1 q16_g => ?_) z 0 v1 g
    refine j_iinc (pc := 133) (v := (v3 + 1)) (lv' := [(3, sI (v3 + 1)), (4, sI q16_0), (1, sL q16_1), (0, sR p0)]) 1 dX9_digest_133 rfl rfl (by decide) rfl ?_
    refine j_goto (pc := 136) (tgt := 95) dX9_digest_136 (by decide) ?_
    refine J.sub [0, 2, 3] rfl ?_
    exact hr (v3 + 1) q16_1 q16_g
set_option maxRecDepth 20000 in
theorem l_X9_digest_95 {X : Xt Int64} (hX : IsM rtL X) (z : Nat) (p0 : Option Nm) (K : Int32 × Int64 × Hp → Option (Int64 × Hp)) (he : ∀ (v3 : Int32) (v1 : Int64) (g : Hp), J yX9_digest cX9_digest 5 (some .long) 4 99 X g 139 [(3, sI v3), (1, sL v1), (0, sR p0)] [] (K (v3, v1, g))) : ∀ (n : Nat) (v3 : Int32) (v1 : Int64) (g : Hp), J yX9_digest cX9_digest 5 (some .long) 4 99 X g 95 [(3, sI v3), (1, sL v1), (0, sR p0)] [] ((f_X9_digest_95_L z p0 n v3 v1 g).bind K)
  | 0, _, _, _ => J.eq rfl J.none
  | n + 1, v3, v1, g => b_X9_digest_95 hX z p0 _ K he (fun v3 v1 g => l_X9_digest_95 hX z p0 K he n v3 v1 g) v3 v1 g
set_option maxRecDepth 20000 in
theorem b_X9_digest_152 {X : Xt Int64} (hX : IsM rtL X) (z : Nat) (p3 : Int32) (p0 : Option Nm) (rec : Int32 → Int64 → Hp → Option (Int32 × Int64 × Hp)) (K : Int32 × Int64 × Hp → Option (Int64 × Hp)) (he : ∀ (v4 : Int32) (v1 : Int64) (g : Hp), J yX9_digest cX9_digest 5 (some .long) 4 99 X g 179 [(4, sI v4), (3, sI p3), (1, sL v1), (0, sR p0)] [] (K (v4, v1, g))) (hr : ∀ (v4 : Int32) (v1 : Int64) (g : Hp), J yX9_digest cX9_digest 5 (some .long) 4 99 X g 152 [(4, sI v4), (3, sI p3), (1, sL v1), (0, sR p0)] [] ((rec v4 v1 g).bind K)) (v4 : Int32) (v1 : Int64) (g : Hp) : J yX9_digest cX9_digest 5 (some .long) 4 99 X g 152 [(4, sI v4), (3, sI p3), (1, sL v1), (0, sR p0)] [] ((f_X9_digest_152_b z p3 p0 rec v4 v1 g).bind K) := by
  unfold f_X9_digest_152_b
  refine j_iload (pc := 152) 0 dX9_digest_152 rfl ?_
  refine j_iconst (pc := 154) (v := 4) dX9_digest_154 (by decide) ?_
  refine j_icmp_gt (pc := 155) (tgt := 179) dX9_digest_155 (by decide) bi (fun hc => ?_) (fun hc => ?_)
  · exact he v4 v1 g
  · refine j_ldc2 (pc := 158) (own := RX9) (v := 31) dX9_digest_158 rfl lk_X9_174 ?_
    refine j_lload_n (pc := 161) 2 dX9_digest_161 rfl rfl ?_
    refine j_lmul (pc := 162) dX9_digest_162 ?_
    refine j_aload_n (pc := 163) 3 dX9_digest_163 rfl rfl ?_
    refine j_iload_n (pc := 164) 1 dX9_digest_164 rfl rfl ?_
    refine j_iload (pc := 165) 0 dX9_digest_165 rfl ?_
    refine j_callV (pc := 167) (own := RX9) [sI p3, sI v4] [sL (31 * v1)] dX9_digest_167 lc_X9_150 lv_X9_tellsQuake rfl (m_X9_tellsQuake z p0 p3 v4 g) ⟨⟨Nat.le_of_ble_eq_true rfl, Nat.le_of_ble_eq_true rfl⟩, Nat.le_of_ble_eq_true rfl⟩ rfl bb (fun q19r q19g => ?_)
    refine j_i2l (pc := 170) dX9_digest_170 ?_
    refine j_ladd (pc := 171) dX9_digest_171 ?_
    refine j_lstore_n (pc := 172) (lv' := [(1, sL ((31 * v1) + (q19r : Int32).toInt64)), (4, sI v4), (3, sI p3), (0, sR p0)]) dX9_digest_172 rfl (by decide) rfl ?_
    refine j_iinc (pc := 173) (v := (v4 + 1)) (lv' := [(4, sI (v4 + 1)), (1, sL ((31 * v1) + (q19r : Int32).toInt64)), (3, sI p3), (0, sR p0)]) 1 dX9_digest_173 rfl rfl (by decide) rfl ?_
    refine j_goto (pc := 176) (tgt := 152) dX9_digest_176 (by decide) ?_
    refine J.sub [0, 2, 1, 3] rfl ?_
    exact hr (v4 + 1) ((31 * v1) + (q19r : Int32).toInt64) q19g
set_option maxRecDepth 20000 in
theorem l_X9_digest_152 {X : Xt Int64} (hX : IsM rtL X) (z : Nat) (p3 : Int32) (p0 : Option Nm) (K : Int32 × Int64 × Hp → Option (Int64 × Hp)) (he : ∀ (v4 : Int32) (v1 : Int64) (g : Hp), J yX9_digest cX9_digest 5 (some .long) 4 99 X g 179 [(4, sI v4), (3, sI p3), (1, sL v1), (0, sR p0)] [] (K (v4, v1, g))) : ∀ (n : Nat) (v4 : Int32) (v1 : Int64) (g : Hp), J yX9_digest cX9_digest 5 (some .long) 4 99 X g 152 [(4, sI v4), (3, sI p3), (1, sL v1), (0, sR p0)] [] ((f_X9_digest_152_L z p3 p0 n v4 v1 g).bind K)
  | 0, _, _, _ => J.eq rfl J.none
  | n + 1, v4, v1, g => b_X9_digest_152 hX z p3 p0 _ K he (fun v4 v1 g => l_X9_digest_152 hX z p3 p0 K he n v4 v1 g) v4 v1 g
set_option maxRecDepth 20000 in
theorem b_X9_digest_141 {X : Xt Int64} (hX : IsM rtL X) (z : Nat) (p0 : Option Nm) (rec : Int32 → Int64 → Hp → Option (Int32 × Int64 × Hp)) (K : Int32 × Int64 × Hp → Option (Int64 × Hp)) (he : ∀ (v3 : Int32) (v1 : Int64) (g : Hp), J yX9_digest cX9_digest 5 (some .long) 4 99 X g 185 [(3, sI v3), (1, sL v1), (0, sR p0)] [] (K (v3, v1, g))) (hr : ∀ (v3 : Int32) (v1 : Int64) (g : Hp), J yX9_digest cX9_digest 5 (some .long) 4 99 X g 141 [(3, sI v3), (1, sL v1), (0, sR p0)] [] ((rec v3 v1 g).bind K)) (v3 : Int32) (v1 : Int64) (g : Hp) : J yX9_digest cX9_digest 5 (some .long) 4 99 X g 141 [(3, sI v3), (1, sL v1), (0, sR p0)] [] ((f_X9_digest_141_b z p0 rec v3 v1 g).bind K) := by
  unfold f_X9_digest_141_b
  refine j_iload_n (pc := 141) 0 dX9_digest_141 rfl rfl ?_
  refine j_aload_n (pc := 142) 2 dX9_digest_142 rfl rfl ?_
  refine j_getI (pc := 143) (own := RX9) dX9_digest_143 lf_X9_119 rfl bb (fun x18 => ?_)
  refine j_icmp_ge (pc := 146) (tgt := 185) dX9_digest_146 (by decide) bi (fun hc => ?_) (fun hc => ?_)
  · exact he v3 v1 g
  · refine j_iconst (pc := 149) (v := 0) dX9_digest_149 (by decide) ?_
    refine j_istore (pc := 150) (lv' := [(4, sI 0), (3, sI v3), (1, sL v1), (0, sR p0)]) dX9_digest_150 (by decide) rfl ?_
    refine J.eq bb ?_
    refine l_X9_digest_152 hX z v3 p0 _ (fun q20_0 q20_1 q20_g => ?_) z 0 v1 g
    refine j_iinc (pc := 179) (v := (v3 + 1)) (lv' := [(3, sI (v3 + 1)), (4, sI q20_0), (1, sL q20_1), (0, sR p0)]) 1 dX9_digest_179 rfl rfl (by decide) rfl ?_
    refine j_goto (pc := 182) (tgt := 141) dX9_digest_182 (by decide) ?_
    refine J.sub [0, 2, 3] rfl ?_
    exact hr (v3 + 1) q20_1 q20_g
set_option maxRecDepth 20000 in
theorem l_X9_digest_141 {X : Xt Int64} (hX : IsM rtL X) (z : Nat) (p0 : Option Nm) (K : Int32 × Int64 × Hp → Option (Int64 × Hp)) (he : ∀ (v3 : Int32) (v1 : Int64) (g : Hp), J yX9_digest cX9_digest 5 (some .long) 4 99 X g 185 [(3, sI v3), (1, sL v1), (0, sR p0)] [] (K (v3, v1, g))) : ∀ (n : Nat) (v3 : Int32) (v1 : Int64) (g : Hp), J yX9_digest cX9_digest 5 (some .long) 4 99 X g 141 [(3, sI v3), (1, sL v1), (0, sR p0)] [] ((f_X9_digest_141_L z p0 n v3 v1 g).bind K)
  | 0, _, _, _ => J.eq rfl J.none
  | n + 1, v3, v1, g => b_X9_digest_141 hX z p0 _ K he (fun v3 v1 g => l_X9_digest_141 hX z p0 K he n v3 v1 g) v3 v1 g
set_option maxRecDepth 20000 in
theorem b_X9_digest_187 {X : Xt Int64} (hX : IsM rtL X) (z : Nat) (p0 : Option Nm) (rec : Int32 → Int64 → Hp → Option (Int32 × Int64 × Hp)) (K : Int32 × Int64 × Hp → Option (Int64 × Hp)) (he : ∀ (v3 : Int32) (v1 : Int64) (g : Hp), J yX9_digest cX9_digest 5 (some .long) 4 99 X g 224 [(3, sI v3), (1, sL v1), (0, sR p0)] [] (K (v3, v1, g))) (hr : ∀ (v3 : Int32) (v1 : Int64) (g : Hp), J yX9_digest cX9_digest 5 (some .long) 4 99 X g 187 [(3, sI v3), (1, sL v1), (0, sR p0)] [] ((rec v3 v1 g).bind K)) (v3 : Int32) (v1 : Int64) (g : Hp) : J yX9_digest cX9_digest 5 (some .long) 4 99 X g 187 [(3, sI v3), (1, sL v1), (0, sR p0)] [] ((f_X9_digest_187_b z p0 rec v3 v1 g).bind K) := by
  unfold f_X9_digest_187_b
  refine j_iload_n (pc := 187) 0 dX9_digest_187 rfl rfl ?_
  refine j_iconst (pc := 188) (v := 4) dX9_digest_188 (by decide) ?_
  refine j_aload_n (pc := 189) 2 dX9_digest_189 rfl rfl ?_
  refine j_getI (pc := 190) (own := RX9) dX9_digest_190 lf_X9_162 rfl bb (fun x22 => ?_)
  refine j_imul (pc := 193) dX9_digest_193 ?_
  refine j_icmp_ge (pc := 194) (tgt := 224) dX9_digest_194 (by decide) bi (fun hc => ?_) (fun hc => ?_)
  · exact he v3 v1 g
  · refine j_iload_n (pc := 197) 0 dX9_digest_197 rfl rfl ?_
    refine j_sipush (pc := 198) (v := 1600) dX9_digest_198 (by decide) ?_
    refine j_icmp_ge (pc := 201) (tgt := 224) dX9_digest_201 (by decide) bi (fun hc => ?_) (fun hc => ?_)
    · exact he v3 v1 g
    · refine j_ldc2 (pc := 204) (own := RX9) (v := 31) dX9_digest_204 rfl lk_X9_174 ?_
      refine j_lload_n (pc := 207) 1 dX9_digest_207 rfl rfl ?_
      refine j_lmul (pc := 208) dX9_digest_208 ?_
      refine j_aload_n (pc := 209) 2 dX9_digest_209 rfl rfl ?_
      refine j_getR (pc := 210) (own := RX9) dX9_digest_210 lf_X9_63 rfl bb (fun x23 => ?_)
      refine j_iload_n (pc := 213) 0 dX9_digest_213 rfl rfl ?_
      refine j_aldI (pc := 214) dX9_digest_214 bb (fun x24 => ?_)
      refine j_i2l (pc := 215) dX9_digest_215 ?_
      refine j_ladd (pc := 216) dX9_digest_216 ?_
      refine j_lstore_n (pc := 217) (lv' := [(1, sL ((31 * v1) + (x24 : Int32).toInt64)), (3, sI v3), (0, sR p0)]) dX9_digest_217 rfl (by decide) rfl ?_
      refine j_iinc (pc := 218) (v := (v3 + 1)) (lv' := [(3, sI (v3 + 1)), (1, sL ((31 * v1) + (x24 : Int32).toInt64)), (0, sR p0)]) 1 dX9_digest_218 rfl rfl (by decide) rfl ?_
      refine j_goto (pc := 221) (tgt := 187) dX9_digest_221 (by decide) ?_
      exact hr (v3 + 1) ((31 * v1) + (x24 : Int32).toInt64) g
set_option maxRecDepth 20000 in
theorem l_X9_digest_187 {X : Xt Int64} (hX : IsM rtL X) (z : Nat) (p0 : Option Nm) (K : Int32 × Int64 × Hp → Option (Int64 × Hp)) (he : ∀ (v3 : Int32) (v1 : Int64) (g : Hp), J yX9_digest cX9_digest 5 (some .long) 4 99 X g 224 [(3, sI v3), (1, sL v1), (0, sR p0)] [] (K (v3, v1, g))) : ∀ (n : Nat) (v3 : Int32) (v1 : Int64) (g : Hp), J yX9_digest cX9_digest 5 (some .long) 4 99 X g 187 [(3, sI v3), (1, sL v1), (0, sR p0)] [] ((f_X9_digest_187_L z p0 n v3 v1 g).bind K)
  | 0, _, _, _ => J.eq rfl J.none
  | n + 1, v3, v1, g => b_X9_digest_187 hX z p0 _ K he (fun v3 v1 g => l_X9_digest_187 hX z p0 K he n v3 v1 g) v3 v1 g
set_option maxRecDepth 20000 in
theorem m_X9_digest (z : Nat) (t : Option Nm) (g : Hp) : FM yX9_digest cX9_digest 5 (some .long) 4 99 rtL [sR t] g (f_X9_digest z t g) := by
  refine FM.entry (by decide +kernel) (Nat.le_of_ble_eq_true rfl) (fun X hX => ?_)
  unfold f_X9_digest
  show J yX9_digest cX9_digest 5 (some .long) 4 99 X g 0 [(0, sR t)] [] _
  refine j_ldc2 (pc := 0) (own := RX9) (v := 527) dX9_digest_0 rfl lk_X9_172 ?_
  refine j_aload_n (pc := 3) 0 dX9_digest_3 rfl rfl ?_
  refine j_getI (pc := 4) (own := RX9) dX9_digest_4 lf_X9_97 rfl rfl (fun x1 => ?_)
  refine j_i2l (pc := 7) dX9_digest_7 ?_
  refine j_ladd (pc := 8) dX9_digest_8 ?_
  refine j_lstore_n (pc := 9) (lv' := [(1, sL (527 + (x1 : Int32).toInt64)), (0, sR t)]) dX9_digest_9 rfl (by decide) rfl ?_
  refine j_iconst (pc := 10) (v := 0) dX9_digest_10 (by decide) ?_
  refine j_istore_n (pc := 11) (lv' := [(3, sI 0), (1, sL (527 + (x1 : Int32).toInt64)), (0, sR t)]) dX9_digest_11 rfl (by decide) rfl ?_
  refine l_X9_digest_12 hX z t _ (fun q13_0 q13_1 q13_g => ?_) z 0 (527 + (x1 : Int32).toInt64) g
  refine j_iconst (pc := 93) (v := 0) dX9_digest_93 (by decide) ?_
  refine j_istore_n (pc := 94) (lv' := [(3, sI 0), (1, sL q13_1), (0, sR t)]) dX9_digest_94 rfl (by decide) rfl ?_
  refine l_X9_digest_95 hX z t _ (fun q17_0 q17_1 q17_g => ?_) z 0 q13_1 q13_g
  refine j_iconst (pc := 139) (v := 0) dX9_digest_139 (by decide) ?_
  refine j_istore_n (pc := 140) (lv' := [(3, sI 0), (1, sL q17_1), (0, sR t)]) dX9_digest_140 rfl (by decide) rfl ?_
  refine l_X9_digest_141 hX z t _ (fun q21_0 q21_1 q21_g => ?_) z 0 q17_1 q17_g
  refine j_iconst (pc := 185) (v := 0) dX9_digest_185 (by decide) ?_
  refine j_istore_n (pc := 186) (lv' := [(3, sI 0), (1, sL q21_1), (0, sR t)]) dX9_digest_186 rfl (by decide) rfl ?_
  refine l_X9_digest_187 hX z t _ (fun q25_0 q25_1 q25_g => ?_) z 0 q21_1 q21_g
  refine j_lload_n (pc := 224) 1 dX9_digest_224 rfl rfl ?_
  exact j_lreturn dX9_digest_225 hX rfl rfl
