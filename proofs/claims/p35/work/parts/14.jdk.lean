/-! by program: words of the tables -/
set_option maxRecDepth 20000 in
theorem lo_Jxa1e45_1 : FLI RJxa1e45 1 := ⟨⟨List.mem_append_right _ (List.mem_of_getElem? (i := 56) (by decide +kernel)), rfl⟩, ⟨List.mem_append_right _ (List.mem_of_getElem? (i := 25) (by decide +kernel)), rfl⟩, ⟨List.mem_append_right _ (List.mem_of_getElem? (i := 26) (by decide +kernel)), rfl⟩⟩
set_option maxRecDepth 20000 in
theorem lc_Jxc12de_1 : FLC RJxc12de 1 yJxa1e45_init_da8c8 cJxa1e45_init_da8c8 1 none 0 := ⟨Or.inl ⟨List.mem_append_right _ (List.mem_of_getElem? (i := 53) (by decide +kernel)), rfl⟩, ⟨List.mem_append_right _ (List.mem_of_getElem? (i := 55) (by decide +kernel)), rfl⟩, ⟨List.mem_append_right _ (List.mem_of_getElem? (i := 3) (by decide +kernel)), rfl⟩, ⟨⟨by decide +kernel, by decide +kernel⟩, by decide +kernel⟩⟩
set_option maxRecDepth 20000 in
theorem li_Jxa1e45_init_da8c8 : FLN0 yJxa1e45_init_da8c8 := ⟨by decide +kernel, List.mem_append_right _ (List.mem_of_getElem? (i := 54) (by decide +kernel)), rfl⟩
set_option maxRecDepth 20000 in
theorem inTJx4a65c : ∀ w ∈ u_ws RJx4a65c TJx4a65c 3, w ∈ lw_tbl ∧ okW w = true := List.forall_mem_map.mpr fun k hk => by
  have hk2 := List.mem_range.mp hk
  rcases (show k = 0 ∨ k = 1 ∨ k = 2 by omega) with rfl | rfl | rfl
  · exact ⟨List.mem_append_right _ (List.mem_of_getElem? (i := 68) (by decide +kernel)), rfl⟩
  · exact ⟨List.mem_append_right _ (List.mem_of_getElem? (i := 64) (by decide +kernel)), rfl⟩
  · exact ⟨List.mem_append_right _ (List.mem_of_getElem? (i := 66) (by decide +kernel)), rfl⟩
set_option maxRecDepth 20000 in
theorem lf_Jxc12de_7 : FLK RJxc12de 7 0 0 false := ⟨RJx4a65c, TJx4a65c, 3, RJxc12de, ⟨rfl, by decide, rfl, by decide⟩, inTJx4a65c, Or.inl ⟨List.mem_append_right _ (List.mem_of_getElem? (i := 61) (by decide +kernel)), rfl⟩, Or.inl rfl⟩
set_option maxRecDepth 20000 in
theorem lt_0_0 : FLT 0 0 .int := ⟨RJx4a65c, TJx4a65c, 3, tyJx4a65c, rfl, by decide +kernel, tyJx4a65c_ok, nmJx4a65c⟩
set_option maxRecDepth 20000 in
theorem lw_Jxc12de_7_Jxc12de_init_da8c8 : FLW yJxc12de_init_da8c8 RJxc12de 7 0 0 := ⟨RJx4a65c, TJx4a65c, 3, rfl, Or.inl rfl⟩
set_option maxRecDepth 20000 in
theorem lc_Jx4a65c_1 : FLC RJx4a65c 1 yJxc12de_init_da8c8 cJxc12de_init_da8c8 1 none 0 := ⟨Or.inl ⟨List.mem_append_right _ (List.mem_of_getElem? (i := 50) (by decide +kernel)), rfl⟩, ⟨List.mem_append_right _ (List.mem_of_getElem? (i := 52) (by decide +kernel)), rfl⟩, ⟨List.mem_append_right _ (List.mem_of_getElem? (i := 4) (by decide +kernel)), rfl⟩, ⟨⟨by decide +kernel, by decide +kernel⟩, by decide +kernel⟩⟩
set_option maxRecDepth 20000 in
theorem li_Jxc12de_init_da8c8 : FLN0 yJxc12de_init_da8c8 := ⟨by decide +kernel, List.mem_append_right _ (List.mem_of_getElem? (i := 51) (by decide +kernel)), rfl⟩
set_option maxRecDepth 20000 in
theorem lg_Jx4a65c_39 : Cond.fieldLink RJx4a65c 39 "java/util/ArrayList" "DEFAULTCAPACITY_EMPTY_ELEMENTDATA" "[Ljava/lang/Object;" ∈ lw_tbl := List.mem_append_right _ (List.mem_of_getElem? (i := 57) (by decide +kernel))
set_option maxRecDepth 20000 in
theorem lf_Jx4a65c_9 : FLK RJx4a65c 9 0 1 true := ⟨RJx4a65c, TJx4a65c, 3, RJx4a65c, ⟨rfl, by decide, rfl, by decide⟩, inTJx4a65c, Or.inl ⟨List.mem_append_right _ (List.mem_of_getElem? (i := 59) (by decide +kernel)), rfl⟩, Or.inl rfl⟩
set_option maxRecDepth 20000 in
theorem lt_0_1 : FLT 0 1 (.array (.object "java/lang/Object")) := ⟨RJx4a65c, TJx4a65c, 3, tyJx4a65c, rfl, by decide +kernel, tyJx4a65c_ok, nmJx4a65c⟩
set_option maxRecDepth 20000 in
theorem lw_Jx4a65c_9_Jx4a65c_init_da8c8 : FLW yJx4a65c_init_da8c8 RJx4a65c 9 0 1 := ⟨RJx4a65c, TJx4a65c, 3, rfl, Or.inl rfl⟩
set_option maxRecDepth 20000 in
theorem lf_Jx4a65c_48 : FLK RJx4a65c 48 0 2 false := ⟨RJx4a65c, TJx4a65c, 3, RJx4a65c, ⟨rfl, by decide, rfl, by decide⟩, inTJx4a65c, Or.inl ⟨List.mem_append_right _ (List.mem_of_getElem? (i := 60) (by decide +kernel)), rfl⟩, Or.inl rfl⟩
set_option maxRecDepth 20000 in
theorem lc_J15_105 : FLC RJ15 105 yJ3_checkIndex_8e157 cJ3_checkIndex_8e157 3 (some .int) 3 := ⟨Or.inl ⟨List.mem_append_right _ (List.mem_of_getElem? (i := 311) (by decide +kernel)), rfl⟩, ⟨List.mem_append_right _ (List.mem_of_getElem? (i := 313) (by decide +kernel)), rfl⟩, ⟨List.mem_append_right _ (List.mem_of_getElem? (i := 15) (by decide +kernel)), rfl⟩, ⟨⟨by decide +kernel, by decide +kernel⟩, by decide +kernel⟩⟩
set_option maxRecDepth 20000 in
theorem ls_J3_checkIndex_8e157 : FLS yJ3_checkIndex_8e157 := ⟨List.mem_append_right _ (List.mem_of_getElem? (i := 312) (by decide +kernel)), rfl⟩
set_option maxRecDepth 20000 in
theorem lc_Jx4a65c_118 : FLC RJx4a65c 118 yJ15_checkIndex_7cf53 cJ15_checkIndex_7cf53 2 (some .int) 2 := ⟨Or.inl ⟨List.mem_append_right _ (List.mem_of_getElem? (i := 308) (by decide +kernel)), rfl⟩, ⟨List.mem_append_right _ (List.mem_of_getElem? (i := 310) (by decide +kernel)), rfl⟩, ⟨List.mem_append_right _ (List.mem_of_getElem? (i := 14) (by decide +kernel)), rfl⟩, ⟨⟨by decide +kernel, by decide +kernel⟩, by decide +kernel⟩⟩
set_option maxRecDepth 20000 in
theorem ls_J15_checkIndex_7cf53 : FLS yJ15_checkIndex_7cf53 := ⟨List.mem_append_right _ (List.mem_of_getElem? (i := 309) (by decide +kernel)), rfl⟩
set_option maxRecDepth 20000 in
theorem lc_Jx4a65c_123 : FLC RJx4a65c 123 yJx4a65c_elementData_915e3 cJx4a65c_elementData_915e3 2 (some (.object "java/lang/Object")) 1 := ⟨Or.inl ⟨List.mem_append_right _ (List.mem_of_getElem? (i := 314) (by decide +kernel)), rfl⟩, ⟨List.mem_append_right _ (List.mem_of_getElem? (i := 317) (by decide +kernel)), rfl⟩, ⟨List.mem_append_right _ (List.mem_of_getElem? (i := 5) (by decide +kernel)), rfl⟩, ⟨⟨by decide +kernel, by decide +kernel⟩, by decide +kernel⟩⟩
set_option maxRecDepth 20000 in
theorem lv_Jx4a65c_elementData_915e3 : FLV yJx4a65c_elementData_915e3 0 := ⟨by decide, by decide +kernel, ⟨List.mem_append_right _ (List.mem_of_getElem? (i := 315) (by decide +kernel)), rfl⟩, ⟨List.mem_append_right _ (List.mem_of_getElem? (i := 316) (by decide +kernel)), rfl⟩⟩
set_option maxRecDepth 20000 in
theorem lf_Jx4a65c_63 : FLK RJx4a65c 63 0 0 false := ⟨RJx4a65c, TJx4a65c, 3, RJx4a65c, ⟨rfl, by decide, rfl, by decide⟩, inTJx4a65c, Or.inl ⟨List.mem_append_right _ (List.mem_of_getElem? (i := 62) (by decide +kernel)), rfl⟩, Or.inr ⟨List.mem_append_right _ (List.mem_of_getElem? (i := 63) (by decide +kernel)), rfl⟩⟩
set_option maxRecDepth 20000 in
theorem lw_Jx4a65c_63_Jx4a65c_add_9ea2d : FLW yJx4a65c_add_9ea2d RJx4a65c 63 0 0 := ⟨RJx4a65c, TJx4a65c, 3, rfl, Or.inl rfl⟩
set_option maxRecDepth 20000 in
theorem lM_J8_194 : FLM RJ8 194 Lib.Math.max.name Lib.Math.max.code 2 := ⟨⟨List.mem_append_right _ (List.mem_of_getElem? (i := 215) (by decide +kernel)), rfl⟩, ⟨List.mem_append_right _ (List.mem_of_getElem? (i := 216) (by decide +kernel)), rfl⟩, ⟨List.mem_append_right _ (List.mem_of_getElem? (i := 9) (by decide +kernel)), rfl⟩, ⟨List.mem_append_right _ (List.mem_of_getElem? (i := 217) (by decide +kernel)), rfl⟩⟩
set_option maxRecDepth 20000 in
theorem lk_J8_200 : Cond.constant RJ8 200 2147483639 ∈ lw_tbl := List.mem_append_right _ (List.mem_of_getElem? (i := 218) (by decide +kernel))
set_option maxRecDepth 20000 in
theorem lc_Jx4a65c_73 : FLC RJx4a65c 73 yJ8_newLength_cabcc cJ8_newLength_cabcc 4 (some .int) 3 := ⟨Or.inl ⟨List.mem_append_right _ (List.mem_of_getElem? (i := 212) (by decide +kernel)), rfl⟩, ⟨List.mem_append_right _ (List.mem_of_getElem? (i := 214) (by decide +kernel)), rfl⟩, ⟨List.mem_append_right _ (List.mem_of_getElem? (i := 8) (by decide +kernel)), rfl⟩, ⟨⟨by decide +kernel, by decide +kernel⟩, by decide +kernel⟩⟩
set_option maxRecDepth 20000 in
theorem ls_J8_newLength_cabcc : FLS yJ8_newLength_cabcc := ⟨List.mem_append_right _ (List.mem_of_getElem? (i := 213) (by decide +kernel)), rfl⟩
set_option maxRecDepth 20000 in
theorem lG_J7_86 : FLG RJ7 86 := ⟨⟨List.mem_append_right _ (List.mem_of_getElem? (i := 225) (by decide +kernel)), rfl⟩, ⟨List.mem_append_right _ (List.mem_of_getElem? (i := 480) (by decide +kernel)), rfl⟩, ⟨List.mem_append_right _ (List.mem_of_getElem? (i := 226) (by decide +kernel)), rfl⟩, ⟨List.mem_append_right _ (List.mem_of_getElem? (i := 237) (by decide +kernel)), rfl⟩⟩
set_option maxRecDepth 20000 in
theorem lq_J7_110 : Cond.classLink RJ7 110 "[Ljava/lang/Object;" ∈ lw_tbl := List.mem_append_right _ (List.mem_of_getElem? (i := 241) (by decide +kernel))
set_option maxRecDepth 20000 in
theorem lq_J7_2 : Cond.classLink RJ7 2 "java/lang/Object" ∈ lw_tbl := List.mem_append_right _ (List.mem_of_getElem? (i := 243) (by decide +kernel))
set_option maxRecDepth 20000 in
theorem lM_J7_304 : FLM RJ7 304 Lib.Math.min.name Lib.Math.min.code 2 := ⟨⟨List.mem_append_right _ (List.mem_of_getElem? (i := 244) (by decide +kernel)), rfl⟩, ⟨List.mem_append_right _ (List.mem_of_getElem? (i := 245) (by decide +kernel)), rfl⟩, ⟨List.mem_append_right _ (List.mem_of_getElem? (i := 9) (by decide +kernel)), rfl⟩, ⟨List.mem_append_right _ (List.mem_of_getElem? (i := 246) (by decide +kernel)), rfl⟩⟩
set_option maxRecDepth 20000 in
theorem la_J7_150 : FLA RJ7 150 := ⟨⟨List.mem_append_right _ (List.mem_of_getElem? (i := 247) (by decide +kernel)), rfl⟩, ⟨List.mem_append_right _ (List.mem_of_getElem? (i := 249) (by decide +kernel)), rfl⟩, ⟨List.mem_append_right _ (List.mem_of_getElem? (i := 248) (by decide +kernel)), rfl⟩, ⟨List.mem_append_right _ (List.mem_of_getElem? (i := 11) (by decide +kernel)), rfl⟩⟩
set_option maxRecDepth 20000 in
theorem lc_J7_300 : FLC RJ7 300 yJ7_copyOf_6403c cJ7_copyOf_6403c 4 (some (.array (.object "java/lang/Object"))) 3 := ⟨Or.inl ⟨List.mem_append_right _ (List.mem_of_getElem? (i := 238) (by decide +kernel)), rfl⟩, ⟨List.mem_append_right _ (List.mem_of_getElem? (i := 240) (by decide +kernel)), rfl⟩, ⟨List.mem_append_right _ (List.mem_of_getElem? (i := 10) (by decide +kernel)), rfl⟩, ⟨⟨by decide +kernel, by decide +kernel⟩, by decide +kernel⟩⟩
set_option maxRecDepth 20000 in
theorem ls_J7_copyOf_6403c : FLS yJ7_copyOf_6403c := ⟨List.mem_append_right _ (List.mem_of_getElem? (i := 239) (by decide +kernel)), rfl⟩
set_option maxRecDepth 20000 in
theorem lc_Jx4a65c_66 : FLC RJx4a65c 66 yJ7_copyOf_1904c cJ7_copyOf_1904c 2 (some (.array (.object "java/lang/Object"))) 2 := ⟨Or.inl ⟨List.mem_append_right _ (List.mem_of_getElem? (i := 222) (by decide +kernel)), rfl⟩, ⟨List.mem_append_right _ (List.mem_of_getElem? (i := 224) (by decide +kernel)), rfl⟩, ⟨List.mem_append_right _ (List.mem_of_getElem? (i := 10) (by decide +kernel)), rfl⟩, ⟨⟨by decide +kernel, by decide +kernel⟩, by decide +kernel⟩⟩
set_option maxRecDepth 20000 in
theorem ls_J7_copyOf_1904c : FLS yJ7_copyOf_1904c := ⟨List.mem_append_right _ (List.mem_of_getElem? (i := 223) (by decide +kernel)), rfl⟩
set_option maxRecDepth 20000 in
theorem lw_Jx4a65c_9_Jx4a65c_grow_92f84 : FLW yJx4a65c_grow_92f84 RJx4a65c 9 0 1 := ⟨RJx4a65c, TJx4a65c, 3, rfl, Or.inl rfl⟩
set_option maxRecDepth 20000 in
theorem lM_Jx4a65c_79 : FLM RJx4a65c 79 Lib.Math.max.name Lib.Math.max.code 2 := ⟨⟨List.mem_append_right _ (List.mem_of_getElem? (i := 250) (by decide +kernel)), rfl⟩, ⟨List.mem_append_right _ (List.mem_of_getElem? (i := 216) (by decide +kernel)), rfl⟩, ⟨List.mem_append_right _ (List.mem_of_getElem? (i := 9) (by decide +kernel)), rfl⟩, ⟨List.mem_append_right _ (List.mem_of_getElem? (i := 217) (by decide +kernel)), rfl⟩⟩
set_option maxRecDepth 20000 in
theorem lq_Jx4a65c_7 : Cond.classLink RJx4a65c 7 "java/lang/Object" ∈ lw_tbl := List.mem_append_right _ (List.mem_of_getElem? (i := 251) (by decide +kernel))
set_option maxRecDepth 20000 in
theorem lc_Jx4a65c_69 : FLC RJx4a65c 69 yJx4a65c_grow_92f84 cJx4a65c_grow_92f84 4 (some (.array (.object "java/lang/Object"))) 1 := ⟨Or.inl ⟨List.mem_append_right _ (List.mem_of_getElem? (i := 208) (by decide +kernel)), rfl⟩, ⟨List.mem_append_right _ (List.mem_of_getElem? (i := 211) (by decide +kernel)), rfl⟩, ⟨List.mem_append_right _ (List.mem_of_getElem? (i := 5) (by decide +kernel)), rfl⟩, ⟨⟨by decide +kernel, by decide +kernel⟩, by decide +kernel⟩⟩
set_option maxRecDepth 20000 in
theorem lv_Jx4a65c_grow_92f84 : FLV yJx4a65c_grow_92f84 0 := ⟨by decide, by decide +kernel, ⟨List.mem_append_right _ (List.mem_of_getElem? (i := 210) (by decide +kernel)), rfl⟩, ⟨List.mem_append_left _ (List.mem_of_getElem? (i := 3) (by decide +kernel)), rfl⟩⟩
set_option maxRecDepth 20000 in
theorem lc_Jx4a65c_129 : FLC RJx4a65c 129 yJx4a65c_grow_d5877 cJx4a65c_grow_d5877 1 (some (.array (.object "java/lang/Object"))) 0 := ⟨Or.inl ⟨List.mem_append_right _ (List.mem_of_getElem? (i := 204) (by decide +kernel)), rfl⟩, ⟨List.mem_append_right _ (List.mem_of_getElem? (i := 207) (by decide +kernel)), rfl⟩, ⟨List.mem_append_right _ (List.mem_of_getElem? (i := 5) (by decide +kernel)), rfl⟩, ⟨⟨by decide +kernel, by decide +kernel⟩, by decide +kernel⟩⟩
set_option maxRecDepth 20000 in
theorem lv_Jx4a65c_grow_d5877 : FLV yJx4a65c_grow_d5877 0 := ⟨by decide, by decide +kernel, ⟨List.mem_append_right _ (List.mem_of_getElem? (i := 206) (by decide +kernel)), rfl⟩, ⟨List.mem_append_left _ (List.mem_of_getElem? (i := 2) (by decide +kernel)), rfl⟩⟩
set_option maxRecDepth 20000 in
theorem lt_0_2 : FLT 0 2 .int := ⟨RJx4a65c, TJx4a65c, 3, tyJx4a65c, rfl, by decide +kernel, tyJx4a65c_ok, nmJx4a65c⟩
set_option maxRecDepth 20000 in
theorem lw_Jx4a65c_48_Jx4a65c_add_72be8 : FLW yJx4a65c_add_72be8 RJx4a65c 48 0 2 := ⟨RJx4a65c, TJx4a65c, 3, rfl, Or.inl rfl⟩
set_option maxRecDepth 20000 in
theorem lc_Jx4a65c_131 : FLC RJx4a65c 131 yJx4a65c_add_72be8 cJx4a65c_add_72be8 4 none 3 := ⟨Or.inl ⟨List.mem_append_right _ (List.mem_of_getElem? (i := 200) (by decide +kernel)), rfl⟩, ⟨List.mem_append_right _ (List.mem_of_getElem? (i := 203) (by decide +kernel)), rfl⟩, ⟨List.mem_append_right _ (List.mem_of_getElem? (i := 5) (by decide +kernel)), rfl⟩, ⟨⟨by decide +kernel, by decide +kernel⟩, by decide +kernel⟩⟩
set_option maxRecDepth 20000 in
theorem lv_Jx4a65c_add_72be8 : FLV yJx4a65c_add_72be8 0 := ⟨by decide, by decide +kernel, ⟨List.mem_append_right _ (List.mem_of_getElem? (i := 202) (by decide +kernel)), rfl⟩, ⟨List.mem_append_left _ (List.mem_of_getElem? (i := 1) (by decide +kernel)), rfl⟩⟩
set_option maxRecDepth 20000 in
theorem lk_J6_264 : Cond.constant RJ6 264 65536 ∈ lw_tbl := List.mem_append_right _ (List.mem_of_getElem? (i := 363) (by decide +kernel))
/-! by program: what the methods do, and that their bytecode does it -/
/-! Jxa1e45_init_da8c8 -/
noncomputable def f_Jxa1e45_init_da8c8 (z : Nat) (t : Option Nm) (g : Hp) : Option (Unit × Hp) :=
  (nnu t).bind fun _ =>
  some ((), g)
set_option maxRecDepth 20000 in
theorem m_Jxa1e45_init_da8c8 (z : Nat) (t : Option Nm) (g : Hp) : FM yJxa1e45_init_da8c8 cJxa1e45_init_da8c8 1 none 1 12 rtV [sR t] g (f_Jxa1e45_init_da8c8 z t g) := by
  refine FM.entry (by decide +kernel) (Nat.le_of_ble_eq_true rfl) (fun X hX => ?_)
  unfold f_Jxa1e45_init_da8c8
  show J yJxa1e45_init_da8c8 cJxa1e45_init_da8c8 1 none 1 12 X g 0 [(0, sR t)] [] _
  refine j_aload_n (pc := 0) 0 dJxa1e45_init_da8c8_0 rfl rfl ?_
  refine b_oinit (pc := 1) (own := RJxa1e45) dJxa1e45_init_da8c8_1 lo_Jxa1e45_1 rfl ⟨Nat.le_of_ble_eq_true rfl, Nat.le_of_ble_eq_true rfl⟩ rfl ?_
  exact j_return dJxa1e45_init_da8c8_4 hX rfl rfl
/-! Jxc12de_init_da8c8 -/
noncomputable def f_Jxc12de_init_da8c8 (z : Nat) (t : Option Nm) (g : Hp) : Option (Unit × Hp) :=
  (nnl t (f_Jxa1e45_init_da8c8 z t g)).bind fun q1 =>
  (putI t 0 0 0 q1.2).bind fun g2 =>
  some ((), g2)
set_option maxRecDepth 20000 in
theorem m_Jxc12de_init_da8c8 (z : Nat) (t : Option Nm) (g : Hp) : FM yJxc12de_init_da8c8 cJxc12de_init_da8c8 1 none 2 32 rtV [sR t] g (f_Jxc12de_init_da8c8 z t g) := by
  refine FM.entry (by decide +kernel) (Nat.le_of_ble_eq_true rfl) (fun X hX => ?_)
  unfold f_Jxc12de_init_da8c8
  show J yJxc12de_init_da8c8 cJxc12de_init_da8c8 1 none 2 32 X g 0 [(0, sR t)] [] _
  refine j_aload_n (pc := 0) 0 dJxc12de_init_da8c8_0 rfl rfl ?_
  refine j_callI (pc := 1) (own := RJxc12de) [] [] dJxc12de_init_da8c8_1 lc_Jxc12de_1 li_Jxa1e45_init_da8c8 rfl (m_Jxa1e45_init_da8c8 z t g) ⟨⟨Nat.le_of_ble_eq_true rfl, Nat.le_of_ble_eq_true rfl⟩, Nat.le_of_ble_eq_true rfl⟩ rfl rfl (fun q1r q1g => ?_)
  refine j_aload_n (pc := 4) 0 dJxc12de_init_da8c8_4 rfl rfl ?_
  refine j_iconst (pc := 5) (v := 0) dJxc12de_init_da8c8_5 (by decide) ?_
  refine j_putI (pc := 6) (own := RJxc12de) dJxc12de_init_da8c8_6 lf_Jxc12de_7 lt_0_0 lw_Jxc12de_7_Jxc12de_init_da8c8 rfl rfl (fun g2 => ?_)
  exact j_return dJxc12de_init_da8c8_9 hX rfl rfl
/-! Jx4a65c_init_da8c8 -/
noncomputable def f_Jx4a65c_init_da8c8 (z : Nat) (t : Option Nm) (g : Hp) : Option (Unit × Hp) :=
  (nnl t (f_Jxc12de_init_da8c8 z t g)).bind fun q1 =>
  (putR t 0 1 (some (17, 0)) q1.2).bind fun g2 =>
  some ((), g2)
set_option maxRecDepth 20000 in
theorem m_Jx4a65c_init_da8c8 (z : Nat) (t : Option Nm) (g : Hp) : FM yJx4a65c_init_da8c8 cJx4a65c_init_da8c8 1 none 3 52 rtV [sR t] g (f_Jx4a65c_init_da8c8 z t g) := by
  refine FM.entry (by decide +kernel) (Nat.le_of_ble_eq_true rfl) (fun X hX => ?_)
  unfold f_Jx4a65c_init_da8c8
  show J yJx4a65c_init_da8c8 cJx4a65c_init_da8c8 1 none 3 52 X g 0 [(0, sR t)] [] _
  refine j_aload_n (pc := 0) 0 dJx4a65c_init_da8c8_0 rfl rfl ?_
  refine j_callI (pc := 1) (own := RJx4a65c) [] [] dJx4a65c_init_da8c8_1 lc_Jx4a65c_1 li_Jxc12de_init_da8c8 rfl (m_Jxc12de_init_da8c8 z t g) ⟨⟨Nat.le_of_ble_eq_true rfl, Nat.le_of_ble_eq_true rfl⟩, Nat.le_of_ble_eq_true rfl⟩ rfl rfl (fun q1r q1g => ?_)
  refine j_aload_n (pc := 4) 0 dJx4a65c_init_da8c8_4 rfl rfl ?_
  refine j_gdef (pc := 5) (own := RJx4a65c) dJx4a65c_init_da8c8_5 rfl lg_Jx4a65c_39 ?_
  refine j_putR (pc := 8) (own := RJx4a65c) dJx4a65c_init_da8c8_8 lf_Jx4a65c_9 lt_0_1 rfl lw_Jx4a65c_9_Jx4a65c_init_da8c8 rfl rfl (fun g2 => ?_)
  exact j_return dJx4a65c_init_da8c8_11 hX rfl rfl
/-! Jx4a65c_isEmpty_aae02 -/
noncomputable def f_Jx4a65c_isEmpty_aae02 (z : Nat) (t : Option Nm) (g : Hp) : Option (Int32 × Hp) :=
  (getI t 0 2 g).bind fun x1 =>
  if x1 = 0 then (rtZ 1 g)
  else (rtZ 0 g)
set_option maxRecDepth 20000 in
theorem m_Jx4a65c_isEmpty_aae02 (z : Nat) (t : Option Nm) (g : Hp) : FM yJx4a65c_isEmpty_aae02 cJx4a65c_isEmpty_aae02 1 (some .boolean) 0 0 rtI [sR t] g (f_Jx4a65c_isEmpty_aae02 z t g) := by
  refine FM.entry (by decide +kernel) (Nat.le_of_ble_eq_true rfl) (fun X hX => ?_)
  unfold f_Jx4a65c_isEmpty_aae02
  show J yJx4a65c_isEmpty_aae02 cJx4a65c_isEmpty_aae02 1 (some .boolean) 0 0 X g 0 [(0, sR t)] [] _
  refine j_aload_n (pc := 0) 0 dJx4a65c_isEmpty_aae02_0 rfl rfl ?_
  refine j_getI (pc := 1) (own := RJx4a65c) dJx4a65c_isEmpty_aae02_1 lf_Jx4a65c_48 rfl rfl (fun x1 => ?_)
  refine j_if_ne (pc := 4) (tgt := 11) dJx4a65c_isEmpty_aae02_4 (by decide) rfl (fun hc => ?_) (fun hc => ?_)
  · refine j_iconst (pc := 11) (v := 0) dJx4a65c_isEmpty_aae02_11 (by decide) ?_
    exact j_zreturn dJx4a65c_isEmpty_aae02_12 hX rfl rfl
  · refine j_iconst (pc := 7) (v := 1) dJx4a65c_isEmpty_aae02_7 (by decide) ?_
    refine j_goto (pc := 8) (tgt := 12) dJx4a65c_isEmpty_aae02_8 (by decide) ?_
    exact j_zreturn dJx4a65c_isEmpty_aae02_12 hX rfl rfl
/-! Jx4a65c_size_8abf5 -/
noncomputable def f_Jx4a65c_size_8abf5 (z : Nat) (t : Option Nm) (g : Hp) : Option (Int32 × Hp) :=
  (getI t 0 2 g).bind fun x1 =>
  some (x1, g)
set_option maxRecDepth 20000 in
theorem m_Jx4a65c_size_8abf5 (z : Nat) (t : Option Nm) (g : Hp) : FM yJx4a65c_size_8abf5 cJx4a65c_size_8abf5 1 (some .int) 0 0 rtI [sR t] g (f_Jx4a65c_size_8abf5 z t g) := by
  refine FM.entry (by decide +kernel) (Nat.le_of_ble_eq_true rfl) (fun X hX => ?_)
  unfold f_Jx4a65c_size_8abf5
  show J yJx4a65c_size_8abf5 cJx4a65c_size_8abf5 1 (some .int) 0 0 X g 0 [(0, sR t)] [] _
  refine j_aload_n (pc := 0) 0 dJx4a65c_size_8abf5_0 rfl rfl ?_
  refine j_getI (pc := 1) (own := RJx4a65c) dJx4a65c_size_8abf5_1 lf_Jx4a65c_48 rfl rfl (fun x1 => ?_)
  exact j_ireturn dJx4a65c_size_8abf5_4 hX rfl rfl
/-! J3_checkIndex_8e157 -/
noncomputable def f_J3_checkIndex_8e157 (z : Nat) (a0 : Int32) (a1 : Int32) (a2 : Option Nm) (g : Hp) : Option (Int32 × Hp) :=
  if a0 < 0 then (none)
  else (if a0 < a1 then (some (a0, g))
    else (none))
set_option maxRecDepth 20000 in
theorem m_J3_checkIndex_8e157 (z : Nat) (a0 : Int32) (a1 : Int32) (a2 : Option Nm) (g : Hp) : FM yJ3_checkIndex_8e157 cJ3_checkIndex_8e157 3 (some .int) 0 0 rtI [sI a0, sI a1, sR a2] g (f_J3_checkIndex_8e157 z a0 a1 a2 g) := by
  refine FM.entry (by decide +kernel) (Nat.le_of_ble_eq_true rfl) (fun X hX => ?_)
  unfold f_J3_checkIndex_8e157
  show J yJ3_checkIndex_8e157 cJ3_checkIndex_8e157 3 (some .int) 0 0 X g 0 [(0, sI a0), (1, sI a1), (2, sR a2)] [] _
  refine j_iload_n (pc := 0) 0 dJ3_checkIndex_8e157_0 rfl rfl ?_
  refine j_if_lt (pc := 1) (tgt := 9) dJ3_checkIndex_8e157_1 (by decide) rfl (fun hc => ?_) (fun hc => ?_)
  · exact J.none
  · refine j_iload_n (pc := 4) 0 dJ3_checkIndex_8e157_4 rfl rfl ?_
    refine j_iload_n (pc := 5) 1 dJ3_checkIndex_8e157_5 rfl rfl ?_
    refine j_icmp_lt (pc := 6) (tgt := 16) dJ3_checkIndex_8e157_6 (by decide) rfl (fun hc => ?_) (fun hc => ?_)
    · refine j_iload_n (pc := 16) 0 dJ3_checkIndex_8e157_16 rfl rfl ?_
      exact j_ireturn dJ3_checkIndex_8e157_17 hX rfl rfl
    · exact J.none
/-! J15_checkIndex_7cf53 -/
noncomputable def f_J15_checkIndex_7cf53 (z : Nat) (a0 : Int32) (a1 : Int32) (g : Hp) : Option (Int32 × Hp) :=
  (f_J3_checkIndex_8e157 z a0 a1 none g).bind fun q1 =>
  some (q1.1, q1.2)
set_option maxRecDepth 20000 in
theorem m_J15_checkIndex_7cf53 (z : Nat) (a0 : Int32) (a1 : Int32) (g : Hp) : FM yJ15_checkIndex_7cf53 cJ15_checkIndex_7cf53 2 (some .int) 1 22 rtI [sI a0, sI a1] g (f_J15_checkIndex_7cf53 z a0 a1 g) := by
  refine FM.entry (by decide +kernel) (Nat.le_of_ble_eq_true rfl) (fun X hX => ?_)
  unfold f_J15_checkIndex_7cf53
  show J yJ15_checkIndex_7cf53 cJ15_checkIndex_7cf53 2 (some .int) 1 22 X g 0 [(0, sI a0), (1, sI a1)] [] _
  refine j_iload_n (pc := 0) 0 dJ15_checkIndex_7cf53_0 rfl rfl ?_
  refine j_iload_n (pc := 1) 1 dJ15_checkIndex_7cf53_1 rfl rfl ?_
  refine j_null (pc := 2) dJ15_checkIndex_7cf53_2 ?_
  refine j_callS (pc := 3) (own := RJ15) [sI a0, sI a1, sR none] [] dJ15_checkIndex_7cf53_3 lc_J15_105 ls_J3_checkIndex_8e157 rfl (m_J3_checkIndex_8e157 z a0 a1 none g) ⟨⟨Nat.le_of_ble_eq_true rfl, Nat.le_of_ble_eq_true rfl⟩, Nat.le_of_ble_eq_true rfl⟩ rfl rfl (fun q1r q1g => ?_)
  exact j_ireturn dJ15_checkIndex_7cf53_6 hX rfl rfl
/-! Jx4a65c_elementData_915e3 -/
noncomputable def f_Jx4a65c_elementData_915e3 (z : Nat) (t : Option Nm) (a0 : Int32) (g : Hp) : Option ((Option Nm) × Hp) :=
  (getR t 0 1 g).bind fun x1 =>
  (aldR x1 a0 g).bind fun x2 =>
  some (x2, g)
set_option maxRecDepth 20000 in
theorem m_Jx4a65c_elementData_915e3 (z : Nat) (t : Option Nm) (a0 : Int32) (g : Hp) : FM yJx4a65c_elementData_915e3 cJx4a65c_elementData_915e3 2 (some (.object "java/lang/Object")) 0 0 rtR [sR t, sI a0] g (f_Jx4a65c_elementData_915e3 z t a0 g) := by
  refine FM.entry (by decide +kernel) (Nat.le_of_ble_eq_true rfl) (fun X hX => ?_)
  unfold f_Jx4a65c_elementData_915e3
  show J yJx4a65c_elementData_915e3 cJx4a65c_elementData_915e3 2 (some (.object "java/lang/Object")) 0 0 X g 0 [(0, sR t), (1, sI a0)] [] _
  refine j_aload_n (pc := 0) 0 dJx4a65c_elementData_915e3_0 rfl rfl ?_
  refine j_getR (pc := 1) (own := RJx4a65c) dJx4a65c_elementData_915e3_1 lf_Jx4a65c_9 rfl rfl (fun x1 => ?_)
  refine j_iload_n (pc := 4) 1 dJx4a65c_elementData_915e3_4 rfl rfl ?_
  refine j_aldR (pc := 5) dJx4a65c_elementData_915e3_5 rfl (fun x2 => ?_)
  exact j_areturn dJx4a65c_elementData_915e3_6 hX rfl (Or.inl ⟨_, rfl⟩) rfl
/-! Jx4a65c_get_915e3 -/
noncomputable def f_Jx4a65c_get_915e3 (z : Nat) (t : Option Nm) (a0 : Int32) (g : Hp) : Option ((Option Nm) × Hp) :=
  (getI t 0 2 g).bind fun x1 =>
  (f_J15_checkIndex_7cf53 z a0 x1 g).bind fun q2 =>
  (ick t 0 (f_Jx4a65c_elementData_915e3 z t a0 q2.2)).bind fun q3 =>
  some (q3.1, q3.2)
set_option maxRecDepth 20000 in
theorem m_Jx4a65c_get_915e3 (z : Nat) (t : Option Nm) (a0 : Int32) (g : Hp) : FM yJx4a65c_get_915e3 cJx4a65c_get_915e3 2 (some (.object "java/lang/Object")) 2 43 rtR [sR t, sI a0] g (f_Jx4a65c_get_915e3 z t a0 g) := by
  refine FM.entry (by decide +kernel) (Nat.le_of_ble_eq_true rfl) (fun X hX => ?_)
  unfold f_Jx4a65c_get_915e3
  show J yJx4a65c_get_915e3 cJx4a65c_get_915e3 2 (some (.object "java/lang/Object")) 2 43 X g 0 [(0, sR t), (1, sI a0)] [] _
  refine j_iload_n (pc := 0) 1 dJx4a65c_get_915e3_0 rfl rfl ?_
  refine j_aload_n (pc := 1) 0 dJx4a65c_get_915e3_1 rfl rfl ?_
  refine j_getI (pc := 2) (own := RJx4a65c) dJx4a65c_get_915e3_2 lf_Jx4a65c_48 rfl rfl (fun x1 => ?_)
  refine j_callS (pc := 5) (own := RJx4a65c) [sI a0, sI x1] [] dJx4a65c_get_915e3_5 lc_Jx4a65c_118 ls_J15_checkIndex_7cf53 rfl (m_J15_checkIndex_7cf53 z a0 x1 g) ⟨⟨Nat.le_of_ble_eq_true rfl, Nat.le_of_ble_eq_true rfl⟩, Nat.le_of_ble_eq_true rfl⟩ rfl rfl (fun q2r q2g => ?_)
  refine j_pop (pc := 8) dJx4a65c_get_915e3_8 rfl ?_
  refine j_aload_n (pc := 9) 0 dJx4a65c_get_915e3_9 rfl rfl ?_
  refine j_iload_n (pc := 10) 1 dJx4a65c_get_915e3_10 rfl rfl ?_
  refine j_callV (pc := 11) (own := RJx4a65c) [sI a0] [] dJx4a65c_get_915e3_11 lc_Jx4a65c_123 lv_Jx4a65c_elementData_915e3 rfl (m_Jx4a65c_elementData_915e3 z t a0 q2g) ⟨⟨Nat.le_of_ble_eq_true rfl, Nat.le_of_ble_eq_true rfl⟩, Nat.le_of_ble_eq_true rfl⟩ rfl rfl (fun q3r q3g => ?_)
  exact j_areturn dJx4a65c_get_915e3_14 hX rfl (Or.inl ⟨_, rfl⟩) rfl
/-! J8_newLength_cabcc -/
noncomputable def f_J8_newLength_cabcc (z : Nat) (a0 : Int32) (a1 : Int32) (a2 : Int32) (g : Hp) : Option (Int32 × Hp) :=
  if (a0 + (imax a1 a2)) ≤ 0 then (none)
  else (if 2147483639 < (a0 + (imax a1 a2)) then (none)
    else (some ((a0 + (imax a1 a2)), g)))
set_option maxRecDepth 20000 in
theorem m_J8_newLength_cabcc (z : Nat) (a0 : Int32) (a1 : Int32) (a2 : Int32) (g : Hp) : FM yJ8_newLength_cabcc cJ8_newLength_cabcc 4 (some .int) 1 14 rtI [sI a0, sI a1, sI a2] g (f_J8_newLength_cabcc z a0 a1 a2 g) := by
  refine FM.entry (by decide +kernel) (Nat.le_of_ble_eq_true rfl) (fun X hX => ?_)
  unfold f_J8_newLength_cabcc
  show J yJ8_newLength_cabcc cJ8_newLength_cabcc 4 (some .int) 1 14 X g 0 [(0, sI a0), (1, sI a1), (2, sI a2)] [] _
  refine j_iload_n (pc := 0) 0 dJ8_newLength_cabcc_0 rfl rfl ?_
  refine j_iload_n (pc := 1) 1 dJ8_newLength_cabcc_1 rfl rfl ?_
  refine j_iload_n (pc := 2) 2 dJ8_newLength_cabcc_2 rfl rfl ?_
  refine j_max (pc := 3) (own := RJ8) dJ8_newLength_cabcc_3 lM_J8_194 rfl ⟨Nat.le_of_ble_eq_true rfl, Nat.le_of_ble_eq_true rfl⟩ ?_
  refine j_iadd (pc := 6) dJ8_newLength_cabcc_6 ?_
  refine j_istore_n (pc := 7) (lv' := [(3, sI (a0 + (imax a1 a2))), (0, sI a0), (1, sI a1), (2, sI a2)]) dJ8_newLength_cabcc_7 rfl (by decide) rfl ?_
  refine j_iconst (pc := 8) (v := 0) dJ8_newLength_cabcc_8 (by decide) ?_
  refine j_iload_n (pc := 9) 0 dJ8_newLength_cabcc_9 rfl rfl ?_
  refine j_icmp_ge (pc := 10) (tgt := 21) dJ8_newLength_cabcc_10 (by decide) rfl (fun hc => ?_) (fun hc => ?_)
  · exact J.none
  · refine j_iload_n (pc := 13) 0 dJ8_newLength_cabcc_13 rfl rfl ?_
    refine j_ldc (pc := 14) (own := RJ8) (v := 2147483639) dJ8_newLength_cabcc_14 rfl lk_J8_200 ?_
    refine j_icmp_gt (pc := 16) (tgt := 21) dJ8_newLength_cabcc_16 (by decide) rfl (fun hc => ?_) (fun hc => ?_)
    · exact J.none
    · refine j_iload_n (pc := 19) 0 dJ8_newLength_cabcc_19 rfl rfl ?_
      exact j_ireturn dJ8_newLength_cabcc_20 hX rfl rfl
/-! J7_copyOf_6403c -/
noncomputable def f_J7_copyOf_6403c (z : Nat) (a0 : Option Nm) (a1 : Int32) (a2 : Option Nm) (g : Hp) : Option ((Option Nm) × Hp) :=
  (acq a2 (some (19, 0)) g).bind fun zz => if zz = true then ((mkR (nca a0, nix a0 + 1) a1 g).bind fun q1 =>
    (alen a0 q1.2).bind fun x2 =>
    (cpyR a0 0 q1.1 0 (imin x2 a1) q1.2).bind fun g3 =>
    some (q1.1, g3))
  else (none)
set_option maxRecDepth 20000 in
theorem m_J7_copyOf_6403c (z : Nat) (a0 : Option Nm) (a1 : Int32) (a2 : Option Nm) (g : Hp) : FM yJ7_copyOf_6403c cJ7_copyOf_6403c 4 (some (.array (.object "java/lang/Object"))) 1 18 rtR [sR a0, sI a1, sR a2] g (f_J7_copyOf_6403c z a0 a1 a2 g) := by
  refine FM.entry (by decide +kernel) (Nat.le_of_ble_eq_true rfl) (fun X hX => ?_)
  unfold f_J7_copyOf_6403c
  show J yJ7_copyOf_6403c cJ7_copyOf_6403c 4 (some (.array (.object "java/lang/Object"))) 1 18 X g 0 [(0, sR a0), (1, sI a1), (2, sR a2)] [] _
  refine j_aload_n (pc := 0) 2 dJ7_copyOf_6403c_0 rfl rfl ?_
  refine j_ldcC (pc := 1) (own := RJ7) dJ7_copyOf_6403c_1 rfl lq_J7_110 ?_
  refine b_acmp_ne (tgt := 13) dJ7_copyOf_6403c_3 (by decide) rfl ?_ ?_
  · exact J.none
  · refine j_iload_n (pc := 6) 1 dJ7_copyOf_6403c_6 rfl rfl ?_
    refine j_mkR (pc := 7) (own := RJ7) dJ7_copyOf_6403c_7 rfl lq_J7_2 rfl (fun q1r q1g => ?_)
    refine j_goto (pc := 10) (tgt := 24) dJ7_copyOf_6403c_10 (by decide) ?_
    refine j_astore_n (pc := 24) (lv' := [(3, sR q1r), (0, sR a0), (1, sI a1), (2, sR a2)]) dJ7_copyOf_6403c_24 rfl (by decide) rfl ?_
    refine j_aload_n (pc := 25) 1 dJ7_copyOf_6403c_25 rfl rfl ?_
    refine j_iconst (pc := 26) (v := 0) dJ7_copyOf_6403c_26 (by decide) ?_
    refine j_aload_n (pc := 27) 0 dJ7_copyOf_6403c_27 rfl rfl ?_
    refine j_iconst (pc := 28) (v := 0) dJ7_copyOf_6403c_28 (by decide) ?_
    refine j_aload_n (pc := 29) 1 dJ7_copyOf_6403c_29 rfl rfl ?_
    refine j_alen (pc := 30) dJ7_copyOf_6403c_30 rfl (fun x2 => ?_)
    refine j_iload_n (pc := 31) 2 dJ7_copyOf_6403c_31 rfl rfl ?_
    refine j_min (pc := 32) (own := RJ7) dJ7_copyOf_6403c_32 lM_J7_304 rfl ⟨Nat.le_of_ble_eq_true rfl, Nat.le_of_ble_eq_true rfl⟩ ?_
    refine j_cpyR (pc := 35) (own := RJ7) dJ7_copyOf_6403c_35 la_J7_150 rfl ⟨Nat.le_of_ble_eq_true rfl, Nat.le_of_ble_eq_true rfl⟩ rfl (fun g3 => ?_)
    refine j_aload_n (pc := 38) 0 dJ7_copyOf_6403c_38 rfl rfl ?_
    exact j_areturn dJ7_copyOf_6403c_39 hX rfl (Or.inr ⟨_, rfl⟩) rfl
/-! J7_copyOf_1904c -/
noncomputable def f_J7_copyOf_1904c (z : Nat) (a0 : Option Nm) (a1 : Int32) (g : Hp) : Option ((Option Nm) × Hp) :=
  (gclas a0).bind fun x1 =>
  (f_J7_copyOf_6403c z a0 a1 x1 g).bind fun q2 =>
  some (q2.1, q2.2)
set_option maxRecDepth 20000 in
theorem m_J7_copyOf_1904c (z : Nat) (a0 : Option Nm) (a1 : Int32) (g : Hp) : FM yJ7_copyOf_1904c cJ7_copyOf_1904c 2 (some (.array (.object "java/lang/Object"))) 2 41 rtR [sR a0, sI a1] g (f_J7_copyOf_1904c z a0 a1 g) := by
  refine FM.entry (by decide +kernel) (Nat.le_of_ble_eq_true rfl) (fun X hX => ?_)
  unfold f_J7_copyOf_1904c
  show J yJ7_copyOf_1904c cJ7_copyOf_1904c 2 (some (.array (.object "java/lang/Object"))) 2 41 X g 0 [(0, sR a0), (1, sI a1)] [] _
  refine j_aload_n (pc := 0) 0 dJ7_copyOf_1904c_0 rfl rfl ?_
  refine j_iload_n (pc := 1) 1 dJ7_copyOf_1904c_1 rfl rfl ?_
  refine j_aload_n (pc := 2) 0 dJ7_copyOf_1904c_2 rfl rfl ?_
  refine j_gclas (pc := 3) (own := RJ7) dJ7_copyOf_1904c_3 lG_J7_86 rfl ⟨Nat.le_of_ble_eq_true rfl, Nat.le_of_ble_eq_true rfl⟩ rfl (fun x1 => ?_)
  refine j_callS (pc := 6) (own := RJ7) [sR a0, sI a1, sR x1] [] dJ7_copyOf_1904c_6 lc_J7_300 ls_J7_copyOf_6403c rfl (m_J7_copyOf_6403c z a0 a1 x1 g) ⟨⟨Nat.le_of_ble_eq_true rfl, Nat.le_of_ble_eq_true rfl⟩, Nat.le_of_ble_eq_true rfl⟩ rfl rfl (fun q2r q2g => ?_)
  exact j_areturn dJ7_copyOf_1904c_9 hX rfl (Or.inr ⟨_, rfl⟩) rfl
/-! Jx4a65c_grow_92f84 -/
noncomputable def f_Jx4a65c_grow_92f84 (z : Nat) (t : Option Nm) (a0 : Int32) (g : Hp) : Option ((Option Nm) × Hp) :=
  (getR t 0 1 g).bind fun x1 =>
  (alen x1 g).bind fun x2 =>
  if 0 < x2 then ((f_J8_newLength_cabcc z x2 (a0 - x2) (x2 >>> (1 &&& 31)) g).bind fun q3 =>
    (getR t 0 1 q3.2).bind fun x4 =>
    (f_J7_copyOf_1904c z x4 q3.1 q3.2).bind fun q5 =>
    (putR t 0 1 q5.1 q5.2).bind fun g6 =>
    some (q5.1, g6))
  else ((getR t 0 1 g).bind fun x7 =>
    (acq x7 (some (17, 0)) g).bind fun zz => if zz = true then ((mkR (12 + nix t, 0) (imax 10 a0) g).bind fun q8 =>
      (putR t 0 1 q8.1 q8.2).bind fun g9 =>
      some (q8.1, g9))
    else ((f_J8_newLength_cabcc z x2 (a0 - x2) (x2 >>> (1 &&& 31)) g).bind fun q10 =>
      (getR t 0 1 q10.2).bind fun x11 =>
      (f_J7_copyOf_1904c z x11 q10.1 q10.2).bind fun q12 =>
      (putR t 0 1 q12.1 q12.2).bind fun g13 =>
      some (q12.1, g13)))
set_option maxRecDepth 20000 in
theorem m_Jx4a65c_grow_92f84 (z : Nat) (t : Option Nm) (a0 : Int32) (g : Hp) : FM yJx4a65c_grow_92f84 cJx4a65c_grow_92f84 4 (some (.array (.object "java/lang/Object"))) 3 62 rtR [sR t, sI a0] g (f_Jx4a65c_grow_92f84 z t a0 g) := by
  refine FM.entry (by decide +kernel) (Nat.le_of_ble_eq_true rfl) (fun X hX => ?_)
  unfold f_Jx4a65c_grow_92f84
  show J yJx4a65c_grow_92f84 cJx4a65c_grow_92f84 4 (some (.array (.object "java/lang/Object"))) 3 62 X g 0 [(0, sR t), (1, sI a0)] [] _
  refine j_aload_n (pc := 0) 0 dJx4a65c_grow_92f84_0 rfl rfl ?_
  refine j_getR (pc := 1) (own := RJx4a65c) dJx4a65c_grow_92f84_1 lf_Jx4a65c_9 rfl rfl (fun x1 => ?_)
  refine j_alen (pc := 4) dJx4a65c_grow_92f84_4 rfl (fun x2 => ?_)
  refine j_istore_n (pc := 5) (lv' := [(2, sI x2), (0, sR t), (1, sI a0)]) dJx4a65c_grow_92f84_5 rfl (by decide) rfl ?_
  refine j_iload_n (pc := 6) 0 dJx4a65c_grow_92f84_6 rfl rfl ?_
  refine j_if_gt (pc := 7) (tgt := 20) dJx4a65c_grow_92f84_7 (by decide) rfl (fun hc => ?_) (fun hc => ?_)
  · refine j_iload_n (pc := 20) 0 dJx4a65c_grow_92f84_20 rfl rfl ?_
    refine j_iload_n (pc := 21) 2 dJx4a65c_grow_92f84_21 rfl rfl ?_
    refine j_iload_n (pc := 22) 0 dJx4a65c_grow_92f84_22 rfl rfl ?_
    refine j_isub (pc := 23) dJx4a65c_grow_92f84_23 ?_
    refine j_iload_n (pc := 24) 0 dJx4a65c_grow_92f84_24 rfl rfl ?_
    refine j_iconst (pc := 25) (v := 1) dJx4a65c_grow_92f84_25 (by decide) ?_
    refine j_ishr (pc := 26) dJx4a65c_grow_92f84_26 ?_
    refine j_callS (pc := 27) (own := RJx4a65c) [sI x2, sI (a0 - x2), sI (x2 >>> (1 &&& 31))] [] dJx4a65c_grow_92f84_27 lc_Jx4a65c_73 ls_J8_newLength_cabcc rfl (m_J8_newLength_cabcc z x2 (a0 - x2) (x2 >>> (1 &&& 31)) g) ⟨⟨Nat.le_of_ble_eq_true rfl, Nat.le_of_ble_eq_true rfl⟩, Nat.le_of_ble_eq_true rfl⟩ rfl rfl (fun q3r q3g => ?_)
    refine j_istore_n (pc := 30) (lv' := [(3, sI q3r), (2, sI x2), (0, sR t), (1, sI a0)]) dJx4a65c_grow_92f84_30 rfl (by decide) rfl ?_
    refine j_aload_n (pc := 31) 2 dJx4a65c_grow_92f84_31 rfl rfl ?_
    refine j_aload_n (pc := 32) 2 dJx4a65c_grow_92f84_32 rfl rfl ?_
    refine j_getR (pc := 33) (own := RJx4a65c) dJx4a65c_grow_92f84_33 lf_Jx4a65c_9 rfl rfl (fun x4 => ?_)
    refine j_iload_n (pc := 36) 0 dJx4a65c_grow_92f84_36 rfl rfl ?_
    refine j_callS (pc := 37) (own := RJx4a65c) [sR x4, sI q3r] [sR t] dJx4a65c_grow_92f84_37 lc_Jx4a65c_66 ls_J7_copyOf_1904c rfl (m_J7_copyOf_1904c z x4 q3r q3g) ⟨⟨Nat.le_of_ble_eq_true rfl, Nat.le_of_ble_eq_true rfl⟩, Nat.le_of_ble_eq_true rfl⟩ rfl rfl (fun q5r q5g => ?_)
    refine j_dup_x1 (pc := 40) dJx4a65c_grow_92f84_40 rfl rfl ?_
    refine j_putR (pc := 41) (own := RJx4a65c) dJx4a65c_grow_92f84_41 lf_Jx4a65c_9 lt_0_1 rfl lw_Jx4a65c_9_Jx4a65c_grow_92f84 rfl rfl (fun g6 => ?_)
    exact j_areturn dJx4a65c_grow_92f84_44 hX rfl (Or.inr ⟨_, rfl⟩) rfl
  · refine j_aload_n (pc := 10) 1 dJx4a65c_grow_92f84_10 rfl rfl ?_
    refine j_getR (pc := 11) (own := RJx4a65c) dJx4a65c_grow_92f84_11 lf_Jx4a65c_9 rfl rfl (fun x7 => ?_)
    refine j_gdef (pc := 14) (own := RJx4a65c) dJx4a65c_grow_92f84_14 rfl lg_Jx4a65c_39 ?_
    refine b_acmp_eq (tgt := 45) dJx4a65c_grow_92f84_17 (by decide) rfl ?_ ?_
    · refine j_aload_n (pc := 45) 1 dJx4a65c_grow_92f84_45 rfl rfl ?_
      refine j_bipush (pc := 46) (v := 10) dJx4a65c_grow_92f84_46 (by decide) ?_
      refine j_iload_n (pc := 48) 2 dJx4a65c_grow_92f84_48 rfl rfl ?_
      refine j_max (pc := 49) (own := RJx4a65c) dJx4a65c_grow_92f84_49 lM_Jx4a65c_79 rfl ⟨Nat.le_of_ble_eq_true rfl, Nat.le_of_ble_eq_true rfl⟩ ?_
      refine j_mkR (pc := 52) (own := RJx4a65c) dJx4a65c_grow_92f84_52 rfl lq_Jx4a65c_7 rfl (fun q8r q8g => ?_)
      refine j_dup_x1 (pc := 55) dJx4a65c_grow_92f84_55 rfl rfl ?_
      refine j_putR (pc := 56) (own := RJx4a65c) dJx4a65c_grow_92f84_56 lf_Jx4a65c_9 lt_0_1 rfl lw_Jx4a65c_9_Jx4a65c_grow_92f84 rfl rfl (fun g9 => ?_)
      exact j_areturn dJx4a65c_grow_92f84_59 hX rfl (Or.inr ⟨_, rfl⟩) rfl
    · refine j_iload_n (pc := 20) 0 dJx4a65c_grow_92f84_20 rfl rfl ?_
      refine j_iload_n (pc := 21) 2 dJx4a65c_grow_92f84_21 rfl rfl ?_
      refine j_iload_n (pc := 22) 0 dJx4a65c_grow_92f84_22 rfl rfl ?_
      refine j_isub (pc := 23) dJx4a65c_grow_92f84_23 ?_
      refine j_iload_n (pc := 24) 0 dJx4a65c_grow_92f84_24 rfl rfl ?_
      refine j_iconst (pc := 25) (v := 1) dJx4a65c_grow_92f84_25 (by decide) ?_
      refine j_ishr (pc := 26) dJx4a65c_grow_92f84_26 ?_
      refine j_callS (pc := 27) (own := RJx4a65c) [sI x2, sI (a0 - x2), sI (x2 >>> (1 &&& 31))] [] dJx4a65c_grow_92f84_27 lc_Jx4a65c_73 ls_J8_newLength_cabcc rfl (m_J8_newLength_cabcc z x2 (a0 - x2) (x2 >>> (1 &&& 31)) g) ⟨⟨Nat.le_of_ble_eq_true rfl, Nat.le_of_ble_eq_true rfl⟩, Nat.le_of_ble_eq_true rfl⟩ rfl rfl (fun q10r q10g => ?_)
      refine j_istore_n (pc := 30) (lv' := [(3, sI q10r), (2, sI x2), (0, sR t), (1, sI a0)]) dJx4a65c_grow_92f84_30 rfl (by decide) rfl ?_
      refine j_aload_n (pc := 31) 2 dJx4a65c_grow_92f84_31 rfl rfl ?_
      refine j_aload_n (pc := 32) 2 dJx4a65c_grow_92f84_32 rfl rfl ?_
      refine j_getR (pc := 33) (own := RJx4a65c) dJx4a65c_grow_92f84_33 lf_Jx4a65c_9 rfl rfl (fun x11 => ?_)
      refine j_iload_n (pc := 36) 0 dJx4a65c_grow_92f84_36 rfl rfl ?_
      refine j_callS (pc := 37) (own := RJx4a65c) [sR x11, sI q10r] [sR t] dJx4a65c_grow_92f84_37 lc_Jx4a65c_66 ls_J7_copyOf_1904c rfl (m_J7_copyOf_1904c z x11 q10r q10g) ⟨⟨Nat.le_of_ble_eq_true rfl, Nat.le_of_ble_eq_true rfl⟩, Nat.le_of_ble_eq_true rfl⟩ rfl rfl (fun q12r q12g => ?_)
      refine j_dup_x1 (pc := 40) dJx4a65c_grow_92f84_40 rfl rfl ?_
      refine j_putR (pc := 41) (own := RJx4a65c) dJx4a65c_grow_92f84_41 lf_Jx4a65c_9 lt_0_1 rfl lw_Jx4a65c_9_Jx4a65c_grow_92f84 rfl rfl (fun g13 => ?_)
      exact j_areturn dJx4a65c_grow_92f84_44 hX rfl (Or.inr ⟨_, rfl⟩) rfl
/-! Jx4a65c_grow_d5877 -/
noncomputable def f_Jx4a65c_grow_d5877 (z : Nat) (t : Option Nm) (g : Hp) : Option ((Option Nm) × Hp) :=
  (getI t 0 2 g).bind fun x1 =>
  (ick t 0 (f_Jx4a65c_grow_92f84 z t (x1 + 1) g)).bind fun q2 =>
  some (q2.1, q2.2)
set_option maxRecDepth 20000 in
theorem m_Jx4a65c_grow_d5877 (z : Nat) (t : Option Nm) (g : Hp) : FM yJx4a65c_grow_d5877 cJx4a65c_grow_d5877 1 (some (.array (.object "java/lang/Object"))) 4 85 rtR [sR t] g (f_Jx4a65c_grow_d5877 z t g) := by
  refine FM.entry (by decide +kernel) (Nat.le_of_ble_eq_true rfl) (fun X hX => ?_)
  unfold f_Jx4a65c_grow_d5877
  show J yJx4a65c_grow_d5877 cJx4a65c_grow_d5877 1 (some (.array (.object "java/lang/Object"))) 4 85 X g 0 [(0, sR t)] [] _
  refine j_aload_n (pc := 0) 0 dJx4a65c_grow_d5877_0 rfl rfl ?_
  refine j_aload_n (pc := 1) 0 dJx4a65c_grow_d5877_1 rfl rfl ?_
  refine j_getI (pc := 2) (own := RJx4a65c) dJx4a65c_grow_d5877_2 lf_Jx4a65c_48 rfl rfl (fun x1 => ?_)
  refine j_iconst (pc := 5) (v := 1) dJx4a65c_grow_d5877_5 (by decide) ?_
  refine j_iadd (pc := 6) dJx4a65c_grow_d5877_6 ?_
  refine j_callV (pc := 7) (own := RJx4a65c) [sI (x1 + 1)] [] dJx4a65c_grow_d5877_7 lc_Jx4a65c_69 lv_Jx4a65c_grow_92f84 rfl (m_Jx4a65c_grow_92f84 z t (x1 + 1) g) ⟨⟨Nat.le_of_ble_eq_true rfl, Nat.le_of_ble_eq_true rfl⟩, Nat.le_of_ble_eq_true rfl⟩ rfl rfl (fun q2r q2g => ?_)
  exact j_areturn dJx4a65c_grow_d5877_10 hX rfl (Or.inr ⟨_, rfl⟩) rfl
/-! Jx4a65c_add_72be8 -/
noncomputable def f_Jx4a65c_add_72be8 (z : Nat) (t : Option Nm) (a0 : Option Nm) (a1 : Option Nm) (a2 : Int32) (g : Hp) : Option (Unit × Hp) :=
  (alen a1 g).bind fun x1 =>
  ((if a2 = x1 then ((ick t 0 (f_Jx4a65c_grow_d5877 z t g)).bind fun q2 =>
      some (q2.1, q2.2))
    else (some (a1, g))) : Option (Option Nm × Hp)).bind fun q3 =>
  (astR q3.1 a2 a0 q3.2).bind fun g4 =>
  (putI t 0 2 (a2 + 1) g4).bind fun g5 =>
  some ((), g5)
set_option maxRecDepth 20000 in
theorem m_Jx4a65c_add_72be8 (z : Nat) (t : Option Nm) (a0 : Option Nm) (a1 : Option Nm) (a2 : Int32) (g : Hp) : FM yJx4a65c_add_72be8 cJx4a65c_add_72be8 4 none 5 105 rtV [sR t, sR a0, sR a1, sI a2] g (f_Jx4a65c_add_72be8 z t a0 a1 a2 g) := by
  refine FM.entry (by decide +kernel) (Nat.le_of_ble_eq_true rfl) (fun X hX => ?_)
  unfold f_Jx4a65c_add_72be8
  show J yJx4a65c_add_72be8 cJx4a65c_add_72be8 4 none 5 105 X g 0 [(0, sR t), (1, sR a0), (2, sR a1), (3, sI a2)] [] _
  refine j_iload_n (pc := 0) 3 dJx4a65c_add_72be8_0 rfl rfl ?_
  refine j_aload_n (pc := 1) 2 dJx4a65c_add_72be8_1 rfl rfl ?_
  refine j_alen (pc := 2) dJx4a65c_add_72be8_2 rfl (fun x1 => ?_)
  refine J.jn (σ := Option Nm × Hp) (fun q3 pr => J yJx4a65c_add_72be8 cJx4a65c_add_72be8 4 none 5 105 X q3.2 11 [(0, sR t), (1, sR a0), (2, sR q3.1), (3, sI a2)] [] pr) (fun K11 hK11 => ?_) (fun q3 => ?_)
  · refine j_icmp_ne (pc := 3) (tgt := 11) dJx4a65c_add_72be8_3 (by decide) bi (fun hc => ?_) (fun hc => ?_)
    · exact hK11 (a1, g)
    · refine j_aload_n (pc := 6) 0 dJx4a65c_add_72be8_6 rfl rfl ?_
      refine j_callV (pc := 7) (own := RJx4a65c) [] [] dJx4a65c_add_72be8_7 lc_Jx4a65c_129 lv_Jx4a65c_grow_d5877 rfl (m_Jx4a65c_grow_d5877 z t g) ⟨⟨Nat.le_of_ble_eq_true rfl, Nat.le_of_ble_eq_true rfl⟩, Nat.le_of_ble_eq_true rfl⟩ rfl bb (fun q2r q2g => ?_)
      refine j_astore_n (pc := 10) (lv' := [(2, sR q2r), (0, sR t), (1, sR a0), (3, sI a2)]) dJx4a65c_add_72be8_10 rfl (by decide) rfl ?_
      refine J.sub [1, 2, 0, 3] rfl ?_
      exact hK11 (q2r, q2g)
  · refine j_aload_n (pc := 11) 2 dJx4a65c_add_72be8_11 rfl rfl ?_
    refine j_iload_n (pc := 12) 3 dJx4a65c_add_72be8_12 rfl rfl ?_
    refine j_aload_n (pc := 13) 1 dJx4a65c_add_72be8_13 rfl rfl ?_
    refine j_astR (pc := 14) dJx4a65c_add_72be8_14 rfl (fun g4 => ?_)
    refine j_aload_n (pc := 15) 0 dJx4a65c_add_72be8_15 rfl rfl ?_
    refine j_iload_n (pc := 16) 3 dJx4a65c_add_72be8_16 rfl rfl ?_
    refine j_iconst (pc := 17) (v := 1) dJx4a65c_add_72be8_17 (by decide) ?_
    refine j_iadd (pc := 18) dJx4a65c_add_72be8_18 ?_
    refine j_putI (pc := 19) (own := RJx4a65c) dJx4a65c_add_72be8_19 lf_Jx4a65c_48 lt_0_2 lw_Jx4a65c_48_Jx4a65c_add_72be8 rfl rfl (fun g5 => ?_)
    exact j_return dJx4a65c_add_72be8_22 hX rfl rfl
/-! Jx4a65c_add_9ea2d -/
noncomputable def f_Jx4a65c_add_9ea2d (z : Nat) (t : Option Nm) (a0 : Option Nm) (g : Hp) : Option (Int32 × Hp) :=
  (getI t 0 0 g).bind fun x1 =>
  (putI t 0 0 (x1 + 1) g).bind fun g2 =>
  (getR t 0 1 g2).bind fun x3 =>
  (getI t 0 2 g2).bind fun x4 =>
  (ick t 0 (f_Jx4a65c_add_72be8 z t a0 x3 x4 g2)).bind fun q5 =>
  rtZ 1 q5.2
set_option maxRecDepth 20000 in
theorem m_Jx4a65c_add_9ea2d (z : Nat) (t : Option Nm) (a0 : Option Nm) (g : Hp) : FM yJx4a65c_add_9ea2d cJx4a65c_add_9ea2d 2 (some .boolean) 6 128 rtI [sR t, sR a0] g (f_Jx4a65c_add_9ea2d z t a0 g) := by
  refine FM.entry (by decide +kernel) (Nat.le_of_ble_eq_true rfl) (fun X hX => ?_)
  unfold f_Jx4a65c_add_9ea2d
  show J yJx4a65c_add_9ea2d cJx4a65c_add_9ea2d 2 (some .boolean) 6 128 X g 0 [(0, sR t), (1, sR a0)] [] _
  refine j_aload_n (pc := 0) 0 dJx4a65c_add_9ea2d_0 rfl rfl ?_
  refine j_dup (pc := 1) dJx4a65c_add_9ea2d_1 rfl ?_
  refine j_getI (pc := 2) (own := RJx4a65c) dJx4a65c_add_9ea2d_2 lf_Jx4a65c_63 rfl rfl (fun x1 => ?_)
  refine j_iconst (pc := 5) (v := 1) dJx4a65c_add_9ea2d_5 (by decide) ?_
  refine j_iadd (pc := 6) dJx4a65c_add_9ea2d_6 ?_
  refine j_putI (pc := 7) (own := RJx4a65c) dJx4a65c_add_9ea2d_7 lf_Jx4a65c_63 lt_0_0 lw_Jx4a65c_63_Jx4a65c_add_9ea2d rfl rfl (fun g2 => ?_)
  refine j_aload_n (pc := 10) 0 dJx4a65c_add_9ea2d_10 rfl rfl ?_
  refine j_aload_n (pc := 11) 1 dJx4a65c_add_9ea2d_11 rfl rfl ?_
  refine j_aload_n (pc := 12) 0 dJx4a65c_add_9ea2d_12 rfl rfl ?_
  refine j_getR (pc := 13) (own := RJx4a65c) dJx4a65c_add_9ea2d_13 lf_Jx4a65c_9 rfl rfl (fun x3 => ?_)
  refine j_aload_n (pc := 16) 0 dJx4a65c_add_9ea2d_16 rfl rfl ?_
  refine j_getI (pc := 17) (own := RJx4a65c) dJx4a65c_add_9ea2d_17 lf_Jx4a65c_48 rfl rfl (fun x4 => ?_)
  refine j_callV (pc := 20) (own := RJx4a65c) [sR a0, sR x3, sI x4] [] dJx4a65c_add_9ea2d_20 lc_Jx4a65c_131 lv_Jx4a65c_add_72be8 rfl (m_Jx4a65c_add_72be8 z t a0 x3 x4 g2) ⟨⟨Nat.le_of_ble_eq_true rfl, Nat.le_of_ble_eq_true rfl⟩, Nat.le_of_ble_eq_true rfl⟩ rfl rfl (fun q5r q5g => ?_)
  refine j_iconst (pc := 23) (v := 1) dJx4a65c_add_9ea2d_23 (by decide) ?_
  exact j_zreturn dJx4a65c_add_9ea2d_24 hX rfl rfl
/-! J6_numberOfLeadingZeros_0f7a4 -/
noncomputable def f_J6_numberOfLeadingZeros_0f7a4 (z : Nat) (a0 : Int32) (g : Hp) : Option (Int32 × Hp) :=
  if 0 < a0 then (((if a0 < 65536 then (some (31, a0))
      else (some ((31 + (-16)), ((a0 : Int32).toUInt32 >>> ((16 : Int32).toUInt32 &&& Int32.toUInt32 31)).toInt32))) : Option (Int32 × Int32)).bind fun q1 =>
    ((if q1.2 < 256 then (some (q1.1, q1.2))
      else (some ((q1.1 + (-8)), ((q1.2 : Int32).toUInt32 >>> ((8 : Int32).toUInt32 &&& Int32.toUInt32 31)).toInt32))) : Option (Int32 × Int32)).bind fun q2 =>
    ((if q2.2 < 16 then (some (q2.1, q2.2))
      else (some ((q2.1 + (-4)), ((q2.2 : Int32).toUInt32 >>> ((4 : Int32).toUInt32 &&& Int32.toUInt32 31)).toInt32))) : Option (Int32 × Int32)).bind fun q3 =>
    ((if q3.2 < 4 then (some (q3.1, q3.2))
      else (some ((q3.1 + (-2)), ((q3.2 : Int32).toUInt32 >>> ((2 : Int32).toUInt32 &&& Int32.toUInt32 31)).toInt32))) : Option (Int32 × Int32)).bind fun q4 =>
    some ((q4.1 - ((q4.2 : Int32).toUInt32 >>> ((1 : Int32).toUInt32 &&& Int32.toUInt32 31)).toInt32), g))
  else (if a0 = 0 then (some (32, g))
    else (some (0, g)))
set_option maxRecDepth 20000 in
theorem m_J6_numberOfLeadingZeros_0f7a4 (z : Nat) (a0 : Int32) (g : Hp) : FM yJ6_numberOfLeadingZeros_0f7a4 cJ6_numberOfLeadingZeros_0f7a4 2 (some .int) 0 0 rtI [sI a0] g (f_J6_numberOfLeadingZeros_0f7a4 z a0 g) := by
  refine FM.entry (by decide +kernel) (Nat.le_of_ble_eq_true rfl) (fun X hX => ?_)
  unfold f_J6_numberOfLeadingZeros_0f7a4
  show J yJ6_numberOfLeadingZeros_0f7a4 cJ6_numberOfLeadingZeros_0f7a4 2 (some .int) 0 0 X g 0 [(0, sI a0)] [] _
  refine j_iload_n (pc := 0) 0 dJ6_numberOfLeadingZeros_0f7a4_0 rfl rfl ?_
  refine j_if_gt (pc := 1) (tgt := 15) dJ6_numberOfLeadingZeros_0f7a4_1 (by decide) rfl (fun hc => ?_) (fun hc => ?_)
  · refine j_bipush (pc := 15) (v := 31) dJ6_numberOfLeadingZeros_0f7a4_15 (by decide) ?_
    refine j_istore_n (pc := 17) (lv' := [(1, sI 31), (0, sI a0)]) dJ6_numberOfLeadingZeros_0f7a4_17 rfl (by decide) rfl ?_
    refine j_iload_n (pc := 18) 1 dJ6_numberOfLeadingZeros_0f7a4_18 rfl rfl ?_
    refine j_ldcw (pc := 19) (own := RJ6) (v := 65536) dJ6_numberOfLeadingZeros_0f7a4_19 rfl lk_J6_264 ?_
    refine J.jn (σ := Int32 × Int32) (fun q1 pr => J yJ6_numberOfLeadingZeros_0f7a4 cJ6_numberOfLeadingZeros_0f7a4 2 (some .int) 0 0 X g 33 [(1, sI q1.1), (0, sI q1.2)] [] pr) (fun K33 hK33 => ?_) (fun q1 => ?_)
    · refine j_icmp_lt (pc := 22) (tgt := 33) dJ6_numberOfLeadingZeros_0f7a4_22 (by decide) bi (fun hc => ?_) (fun hc => ?_)
      · exact hK33 (31, a0)
      · refine j_iinc (pc := 25) (v := (31 + (-16))) (lv' := [(1, sI (31 + (-16))), (0, sI a0)]) 0 dJ6_numberOfLeadingZeros_0f7a4_25 rfl rfl (by decide) rfl ?_
        refine j_iload_n (pc := 28) 1 dJ6_numberOfLeadingZeros_0f7a4_28 rfl rfl ?_
        refine j_bipush (pc := 29) (v := 16) dJ6_numberOfLeadingZeros_0f7a4_29 (by decide) ?_
        refine j_iushr (pc := 31) dJ6_numberOfLeadingZeros_0f7a4_31 ?_
        refine j_istore_n (pc := 32) (lv' := [(0, sI ((a0 : Int32).toUInt32 >>> ((16 : Int32).toUInt32 &&& Int32.toUInt32 31)).toInt32), (1, sI (31 + (-16)))]) dJ6_numberOfLeadingZeros_0f7a4_32 rfl (by decide) rfl ?_
        refine J.sub [1, 0] rfl ?_
        exact hK33 ((31 + (-16)), ((a0 : Int32).toUInt32 >>> ((16 : Int32).toUInt32 &&& Int32.toUInt32 31)).toInt32)
    · refine j_iload_n (pc := 33) 1 dJ6_numberOfLeadingZeros_0f7a4_33 rfl rfl ?_
      refine j_sipush (pc := 34) (v := 256) dJ6_numberOfLeadingZeros_0f7a4_34 (by decide) ?_
      refine J.jn (σ := Int32 × Int32) (fun q2 pr => J yJ6_numberOfLeadingZeros_0f7a4 cJ6_numberOfLeadingZeros_0f7a4 2 (some .int) 0 0 X g 48 [(1, sI q2.1), (0, sI q2.2)] [] pr) (fun K48 hK48 => ?_) (fun q2 => ?_)
      · refine j_icmp_lt (pc := 37) (tgt := 48) dJ6_numberOfLeadingZeros_0f7a4_37 (by decide) bi (fun hc => ?_) (fun hc => ?_)
        · exact hK48 (q1.1, q1.2)
        · refine j_iinc (pc := 40) (v := (q1.1 + (-8))) (lv' := [(1, sI (q1.1 + (-8))), (0, sI q1.2)]) 0 dJ6_numberOfLeadingZeros_0f7a4_40 rfl rfl (by decide) rfl ?_
          refine j_iload_n (pc := 43) 1 dJ6_numberOfLeadingZeros_0f7a4_43 rfl rfl ?_
          refine j_bipush (pc := 44) (v := 8) dJ6_numberOfLeadingZeros_0f7a4_44 (by decide) ?_
          refine j_iushr (pc := 46) dJ6_numberOfLeadingZeros_0f7a4_46 ?_
          refine j_istore_n (pc := 47) (lv' := [(0, sI ((q1.2 : Int32).toUInt32 >>> ((8 : Int32).toUInt32 &&& Int32.toUInt32 31)).toInt32), (1, sI (q1.1 + (-8)))]) dJ6_numberOfLeadingZeros_0f7a4_47 rfl (by decide) rfl ?_
          refine J.sub [1, 0] rfl ?_
          exact hK48 ((q1.1 + (-8)), ((q1.2 : Int32).toUInt32 >>> ((8 : Int32).toUInt32 &&& Int32.toUInt32 31)).toInt32)
      · refine j_iload_n (pc := 48) 1 dJ6_numberOfLeadingZeros_0f7a4_48 rfl rfl ?_
        refine j_bipush (pc := 49) (v := 16) dJ6_numberOfLeadingZeros_0f7a4_49 (by decide) ?_
        refine J.jn (σ := Int32 × Int32) (fun q3 pr => J yJ6_numberOfLeadingZeros_0f7a4 cJ6_numberOfLeadingZeros_0f7a4 2 (some .int) 0 0 X g 61 [(1, sI q3.1), (0, sI q3.2)] [] pr) (fun K61 hK61 => ?_) (fun q3 => ?_)
        · refine j_icmp_lt (pc := 51) (tgt := 61) dJ6_numberOfLeadingZeros_0f7a4_51 (by decide) bi (fun hc => ?_) (fun hc => ?_)
          · exact hK61 (q2.1, q2.2)
          · refine j_iinc (pc := 54) (v := (q2.1 + (-4))) (lv' := [(1, sI (q2.1 + (-4))), (0, sI q2.2)]) 0 dJ6_numberOfLeadingZeros_0f7a4_54 rfl rfl (by decide) rfl ?_
            refine j_iload_n (pc := 57) 1 dJ6_numberOfLeadingZeros_0f7a4_57 rfl rfl ?_
            refine j_iconst (pc := 58) (v := 4) dJ6_numberOfLeadingZeros_0f7a4_58 (by decide) ?_
            refine j_iushr (pc := 59) dJ6_numberOfLeadingZeros_0f7a4_59 ?_
            refine j_istore_n (pc := 60) (lv' := [(0, sI ((q2.2 : Int32).toUInt32 >>> ((4 : Int32).toUInt32 &&& Int32.toUInt32 31)).toInt32), (1, sI (q2.1 + (-4)))]) dJ6_numberOfLeadingZeros_0f7a4_60 rfl (by decide) rfl ?_
            refine J.sub [1, 0] rfl ?_
            exact hK61 ((q2.1 + (-4)), ((q2.2 : Int32).toUInt32 >>> ((4 : Int32).toUInt32 &&& Int32.toUInt32 31)).toInt32)
        · refine j_iload_n (pc := 61) 1 dJ6_numberOfLeadingZeros_0f7a4_61 rfl rfl ?_
          refine j_iconst (pc := 62) (v := 4) dJ6_numberOfLeadingZeros_0f7a4_62 (by decide) ?_
          refine J.jn (σ := Int32 × Int32) (fun q4 pr => J yJ6_numberOfLeadingZeros_0f7a4 cJ6_numberOfLeadingZeros_0f7a4 2 (some .int) 0 0 X g 73 [(1, sI q4.1), (0, sI q4.2)] [] pr) (fun K73 hK73 => ?_) (fun q4 => ?_)
          · refine j_icmp_lt (pc := 63) (tgt := 73) dJ6_numberOfLeadingZeros_0f7a4_63 (by decide) bi (fun hc => ?_) (fun hc => ?_)
            · exact hK73 (q3.1, q3.2)
            · refine j_iinc (pc := 66) (v := (q3.1 + (-2))) (lv' := [(1, sI (q3.1 + (-2))), (0, sI q3.2)]) 0 dJ6_numberOfLeadingZeros_0f7a4_66 rfl rfl (by decide) rfl ?_
              refine j_iload_n (pc := 69) 1 dJ6_numberOfLeadingZeros_0f7a4_69 rfl rfl ?_
              refine j_iconst (pc := 70) (v := 2) dJ6_numberOfLeadingZeros_0f7a4_70 (by decide) ?_
              refine j_iushr (pc := 71) dJ6_numberOfLeadingZeros_0f7a4_71 ?_
              refine j_istore_n (pc := 72) (lv' := [(0, sI ((q3.2 : Int32).toUInt32 >>> ((2 : Int32).toUInt32 &&& Int32.toUInt32 31)).toInt32), (1, sI (q3.1 + (-2)))]) dJ6_numberOfLeadingZeros_0f7a4_72 rfl (by decide) rfl ?_
              refine J.sub [1, 0] rfl ?_
              exact hK73 ((q3.1 + (-2)), ((q3.2 : Int32).toUInt32 >>> ((2 : Int32).toUInt32 &&& Int32.toUInt32 31)).toInt32)
          · refine j_iload_n (pc := 73) 0 dJ6_numberOfLeadingZeros_0f7a4_73 rfl rfl ?_
            refine j_iload_n (pc := 74) 1 dJ6_numberOfLeadingZeros_0f7a4_74 rfl rfl ?_
            refine j_iconst (pc := 75) (v := 1) dJ6_numberOfLeadingZeros_0f7a4_75 (by decide) ?_
            refine j_iushr (pc := 76) dJ6_numberOfLeadingZeros_0f7a4_76 ?_
            refine j_isub (pc := 77) dJ6_numberOfLeadingZeros_0f7a4_77 ?_
            exact j_ireturn dJ6_numberOfLeadingZeros_0f7a4_78 hX rfl rfl
  · refine j_iload_n (pc := 4) 0 dJ6_numberOfLeadingZeros_0f7a4_4 rfl rfl ?_
    refine j_if_ne (pc := 5) (tgt := 13) dJ6_numberOfLeadingZeros_0f7a4_5 (by decide) rfl (fun hc => ?_) (fun hc => ?_)
    · refine j_iconst (pc := 13) (v := 0) dJ6_numberOfLeadingZeros_0f7a4_13 (by decide) ?_
      exact j_ireturn dJ6_numberOfLeadingZeros_0f7a4_14 hX rfl rfl
    · refine j_bipush (pc := 8) (v := 32) dJ6_numberOfLeadingZeros_0f7a4_8 (by decide) ?_
      refine j_goto (pc := 10) (tgt := 14) dJ6_numberOfLeadingZeros_0f7a4_10 (by decide) ?_
      exact j_ireturn dJ6_numberOfLeadingZeros_0f7a4_14 hX rfl rfl
