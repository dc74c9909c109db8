/-! by program: words of the tables -/
set_option maxRecDepth 20000 in
theorem lk_L_7 : Cond.constant RL 7 2147483647 ∈ lw_tbl := List.mem_append_right _ (List.mem_of_getElem? (i := 465) (by decide +kernel))
set_option maxRecDepth 20000 in
theorem lk_L_8 : Cond.constant RL 8 40503 ∈ lw_tbl := List.mem_append_right _ (List.mem_of_getElem? (i := 469) (by decide +kernel))
set_option maxRecDepth 20000 in
theorem ln_L_9 : FLN RL 9 9 := ⟨RX8, TX8, 14, tyX8, ⟨rfl, by decide, rfl⟩, tyX8_ok, (fun j hj b hb => by
  rcases (show j = 0 ∨ j = 1 ∨ j = 2 ∨ j = 3 ∨ j = 4 ∨ j = 5 ∨ j = 6 ∨ j = 7 ∨ j = 8 ∨ j = 9 ∨ j = 10 ∨ j = 11 ∨ j = 12 ∨ j = 13 by omega) with rfl | rfl | rfl | rfl | rfl | rfl | rfl | rfl | rfl | rfl | rfl | rfl | rfl | rfl <;> (cases hb; rfl)), inTX8, ⟨List.mem_append_right _ (List.mem_of_getElem? (i := 19) (by decide +kernel)), rfl⟩, ⟨List.mem_append_right _ (List.mem_of_getElem? (i := 20) (by decide +kernel)), rfl⟩, ⟨List.mem_append_right _ (List.mem_of_getElem? (i := 1) (by decide +kernel)), rfl⟩⟩
set_option maxRecDepth 20000 in
theorem lc_L_11 : FLC RL 11 yX8_init cX8_init 1 none 0 := ⟨Or.inl ⟨List.mem_append_right _ (List.mem_of_getElem? (i := 21) (by decide +kernel)), rfl⟩, ⟨List.mem_append_right _ (List.mem_of_getElem? (i := 23) (by decide +kernel)), rfl⟩, ⟨List.mem_append_right _ (List.mem_of_getElem? (i := 1) (by decide +kernel)), rfl⟩, ⟨⟨by decide +kernel, by decide +kernel⟩, by decide +kernel⟩⟩
set_option maxRecDepth 20000 in
theorem li_X8_init : FLN0 yX8_init := ⟨by decide +kernel, List.mem_append_right _ (List.mem_of_getElem? (i := 22) (by decide +kernel)), rfl⟩
set_option maxRecDepth 20000 in
theorem lc_L_12 : FLC RL 12 yL_cell cL_cell 2 (some .int) 2 := ⟨Or.inl ⟨List.mem_append_right _ (List.mem_of_getElem? (i := 466) (by decide +kernel)), rfl⟩, ⟨List.mem_append_right _ (List.mem_of_getElem? (i := 468) (by decide +kernel)), rfl⟩, ⟨List.mem_append_right _ (List.mem_of_getElem? (i := 0) (by decide +kernel)), rfl⟩, ⟨⟨by decide +kernel, by decide +kernel⟩, by decide +kernel⟩⟩
set_option maxRecDepth 20000 in
theorem ls_L_cell : FLS yL_cell := ⟨List.mem_append_right _ (List.mem_of_getElem? (i := 467) (by decide +kernel)), rfl⟩
set_option maxRecDepth 20000 in
theorem lc_L_18 : FLC RL 18 yL_low cL_low 2 (some .int) 2 := ⟨Or.inl ⟨List.mem_append_right _ (List.mem_of_getElem? (i := 462) (by decide +kernel)), rfl⟩, ⟨List.mem_append_right _ (List.mem_of_getElem? (i := 464) (by decide +kernel)), rfl⟩, ⟨List.mem_append_right _ (List.mem_of_getElem? (i := 0) (by decide +kernel)), rfl⟩, ⟨⟨by decide +kernel, by decide +kernel⟩, by decide +kernel⟩⟩
set_option maxRecDepth 20000 in
theorem ls_L_low : FLS yL_low := ⟨List.mem_append_right _ (List.mem_of_getElem? (i := 463) (by decide +kernel)), rfl⟩
set_option maxRecDepth 20000 in
theorem lc_L_22 : FLC RL 22 yX8_rule cX8_rule 3 (some .int) 2 := ⟨Or.inl ⟨List.mem_append_right _ (List.mem_of_getElem? (i := 143) (by decide +kernel)), rfl⟩, ⟨List.mem_append_right _ (List.mem_of_getElem? (i := 146) (by decide +kernel)), rfl⟩, ⟨List.mem_append_right _ (List.mem_of_getElem? (i := 1) (by decide +kernel)), rfl⟩, ⟨⟨by decide +kernel, by decide +kernel⟩, by decide +kernel⟩⟩
set_option maxRecDepth 20000 in
theorem lv_X8_rule : FLV yX8_rule 9 := ⟨by decide, by decide +kernel, ⟨List.mem_append_right _ (List.mem_of_getElem? (i := 144) (by decide +kernel)), rfl⟩, ⟨List.mem_append_right _ (List.mem_of_getElem? (i := 145) (by decide +kernel)), rfl⟩⟩
set_option maxRecDepth 20000 in
theorem lc_L_25 : FLC RL 25 yX8_town cX8_town 2 (some .int) 1 := ⟨Or.inl ⟨List.mem_append_right _ (List.mem_of_getElem? (i := 252) (by decide +kernel)), rfl⟩, ⟨List.mem_append_right _ (List.mem_of_getElem? (i := 255) (by decide +kernel)), rfl⟩, ⟨List.mem_append_right _ (List.mem_of_getElem? (i := 1) (by decide +kernel)), rfl⟩, ⟨⟨by decide +kernel, by decide +kernel⟩, by decide +kernel⟩⟩
set_option maxRecDepth 20000 in
theorem lv_X8_town : FLV yX8_town 9 := ⟨by decide, by decide +kernel, ⟨List.mem_append_right _ (List.mem_of_getElem? (i := 253) (by decide +kernel)), rfl⟩, ⟨List.mem_append_right _ (List.mem_of_getElem? (i := 254) (by decide +kernel)), rfl⟩⟩
set_option maxRecDepth 20000 in
theorem lc_L_38 : FLC RL 38 yX8_later cX8_later 2 (some .int) 1 := ⟨Or.inl ⟨List.mem_append_right _ (List.mem_of_getElem? (i := 278) (by decide +kernel)), rfl⟩, ⟨List.mem_append_right _ (List.mem_of_getElem? (i := 281) (by decide +kernel)), rfl⟩, ⟨List.mem_append_right _ (List.mem_of_getElem? (i := 1) (by decide +kernel)), rfl⟩, ⟨⟨by decide +kernel, by decide +kernel⟩, by decide +kernel⟩⟩
set_option maxRecDepth 20000 in
theorem lv_X8_later : FLV yX8_later 9 := ⟨by decide, by decide +kernel, ⟨List.mem_append_right _ (List.mem_of_getElem? (i := 279) (by decide +kernel)), rfl⟩, ⟨List.mem_append_right _ (List.mem_of_getElem? (i := 280) (by decide +kernel)), rfl⟩⟩
set_option maxRecDepth 20000 in
theorem lc_L_45 : FLC RL 45 yX8_quake cX8_quake 3 (some .int) 2 := ⟨Or.inl ⟨List.mem_append_right _ (List.mem_of_getElem? (i := 418) (by decide +kernel)), rfl⟩, ⟨List.mem_append_right _ (List.mem_of_getElem? (i := 421) (by decide +kernel)), rfl⟩, ⟨List.mem_append_right _ (List.mem_of_getElem? (i := 1) (by decide +kernel)), rfl⟩, ⟨⟨by decide +kernel, by decide +kernel⟩, by decide +kernel⟩⟩
set_option maxRecDepth 20000 in
theorem lv_X8_quake : FLV yX8_quake 9 := ⟨by decide, by decide +kernel, ⟨List.mem_append_right _ (List.mem_of_getElem? (i := 419) (by decide +kernel)), rfl⟩, ⟨List.mem_append_right _ (List.mem_of_getElem? (i := 420) (by decide +kernel)), rfl⟩⟩
set_option maxRecDepth 20000 in
theorem lc_L_48 : FLC RL 48 yX8_holds cX8_holds 5 (some .int) 3 := ⟨Or.inl ⟨List.mem_append_right _ (List.mem_of_getElem? (i := 430) (by decide +kernel)), rfl⟩, ⟨List.mem_append_right _ (List.mem_of_getElem? (i := 433) (by decide +kernel)), rfl⟩, ⟨List.mem_append_right _ (List.mem_of_getElem? (i := 1) (by decide +kernel)), rfl⟩, ⟨⟨by decide +kernel, by decide +kernel⟩, by decide +kernel⟩⟩
set_option maxRecDepth 20000 in
theorem lv_X8_holds : FLV yX8_holds 9 := ⟨by decide, by decide +kernel, ⟨List.mem_append_right _ (List.mem_of_getElem? (i := 431) (by decide +kernel)), rfl⟩, ⟨List.mem_append_right _ (List.mem_of_getElem? (i := 432) (by decide +kernel)), rfl⟩⟩
set_option maxRecDepth 20000 in
theorem lc_L_35 : FLC RL 35 yX8_count cX8_count 2 (some .int) 1 := ⟨Or.inl ⟨List.mem_append_right _ (List.mem_of_getElem? (i := 458) (by decide +kernel)), rfl⟩, ⟨List.mem_append_right _ (List.mem_of_getElem? (i := 461) (by decide +kernel)), rfl⟩, ⟨List.mem_append_right _ (List.mem_of_getElem? (i := 1) (by decide +kernel)), rfl⟩, ⟨⟨by decide +kernel, by decide +kernel⟩, by decide +kernel⟩⟩
set_option maxRecDepth 20000 in
theorem lv_X8_count : FLV yX8_count 9 := ⟨by decide, by decide +kernel, ⟨List.mem_append_right _ (List.mem_of_getElem? (i := 459) (by decide +kernel)), rfl⟩, ⟨List.mem_append_right _ (List.mem_of_getElem? (i := 460) (by decide +kernel)), rfl⟩⟩
set_option maxRecDepth 20000 in
theorem lc_L_41 : FLC RL 41 yX8_pick cX8_pick 6 (some .int) 3 := ⟨Or.inl ⟨List.mem_append_right _ (List.mem_of_getElem? (i := 287) (by decide +kernel)), rfl⟩, ⟨List.mem_append_right _ (List.mem_of_getElem? (i := 290) (by decide +kernel)), rfl⟩, ⟨List.mem_append_right _ (List.mem_of_getElem? (i := 1) (by decide +kernel)), rfl⟩, ⟨⟨by decide +kernel, by decide +kernel⟩, by decide +kernel⟩⟩
set_option maxRecDepth 20000 in
theorem lv_X8_pick : FLV yX8_pick 9 := ⟨by decide, by decide +kernel, ⟨List.mem_append_right _ (List.mem_of_getElem? (i := 288) (by decide +kernel)), rfl⟩, ⟨List.mem_append_right _ (List.mem_of_getElem? (i := 289) (by decide +kernel)), rfl⟩⟩
set_option maxRecDepth 20000 in
theorem lc_L_51 : FLC RL 51 yX8_left cX8_left 3 (some .int) 2 := ⟨Or.inl ⟨List.mem_append_right _ (List.mem_of_getElem? (i := 454) (by decide +kernel)), rfl⟩, ⟨List.mem_append_right _ (List.mem_of_getElem? (i := 457) (by decide +kernel)), rfl⟩, ⟨List.mem_append_right _ (List.mem_of_getElem? (i := 1) (by decide +kernel)), rfl⟩, ⟨⟨by decide +kernel, by decide +kernel⟩, by decide +kernel⟩⟩
set_option maxRecDepth 20000 in
theorem lv_X8_left : FLV yX8_left 9 := ⟨by decide, by decide +kernel, ⟨List.mem_append_right _ (List.mem_of_getElem? (i := 455) (by decide +kernel)), rfl⟩, ⟨List.mem_append_right _ (List.mem_of_getElem? (i := 456) (by decide +kernel)), rfl⟩⟩
set_option maxRecDepth 20000 in
theorem lc_L_54 : FLC RL 54 yX8_late cX8_late 3 (some .int) 2 := ⟨Or.inl ⟨List.mem_append_right _ (List.mem_of_getElem? (i := 434) (by decide +kernel)), rfl⟩, ⟨List.mem_append_right _ (List.mem_of_getElem? (i := 437) (by decide +kernel)), rfl⟩, ⟨List.mem_append_right _ (List.mem_of_getElem? (i := 1) (by decide +kernel)), rfl⟩, ⟨⟨by decide +kernel, by decide +kernel⟩, by decide +kernel⟩⟩
set_option maxRecDepth 20000 in
theorem lv_X8_late : FLV yX8_late 9 := ⟨by decide, by decide +kernel, ⟨List.mem_append_right _ (List.mem_of_getElem? (i := 435) (by decide +kernel)), rfl⟩, ⟨List.mem_append_right _ (List.mem_of_getElem? (i := 436) (by decide +kernel)), rfl⟩⟩
set_option maxRecDepth 20000 in
theorem lc_L_29 : FLC RL 29 yX8_station cX8_station 2 (some .int) 1 := ⟨Or.inl ⟨List.mem_append_right _ (List.mem_of_getElem? (i := 155) (by decide +kernel)), rfl⟩, ⟨List.mem_append_right _ (List.mem_of_getElem? (i := 158) (by decide +kernel)), rfl⟩, ⟨List.mem_append_right _ (List.mem_of_getElem? (i := 1) (by decide +kernel)), rfl⟩, ⟨⟨by decide +kernel, by decide +kernel⟩, by decide +kernel⟩⟩
set_option maxRecDepth 20000 in
theorem lv_X8_station : FLV yX8_station 9 := ⟨by decide, by decide +kernel, ⟨List.mem_append_right _ (List.mem_of_getElem? (i := 156) (by decide +kernel)), rfl⟩, ⟨List.mem_append_right _ (List.mem_of_getElem? (i := 157) (by decide +kernel)), rfl⟩⟩
set_option maxRecDepth 20000 in
theorem lc_L_32 : FLC RL 32 yX8_travel cX8_travel 3 (some .int) 2 := ⟨Or.inl ⟨List.mem_append_right _ (List.mem_of_getElem? (i := 267) (by decide +kernel)), rfl⟩, ⟨List.mem_append_right _ (List.mem_of_getElem? (i := 270) (by decide +kernel)), rfl⟩, ⟨List.mem_append_right _ (List.mem_of_getElem? (i := 1) (by decide +kernel)), rfl⟩, ⟨⟨by decide +kernel, by decide +kernel⟩, by decide +kernel⟩⟩
set_option maxRecDepth 20000 in
theorem lv_X8_travel : FLV yX8_travel 9 := ⟨by decide, by decide +kernel, ⟨List.mem_append_right _ (List.mem_of_getElem? (i := 268) (by decide +kernel)), rfl⟩, ⟨List.mem_append_right _ (List.mem_of_getElem? (i := 269) (by decide +kernel)), rfl⟩⟩
/-! by program: what the methods do, and that their bytecode does it -/
/-! L_low -/
noncomputable def f_L_low (z : Nat) (a0 : Int32) (a1 : Int32) (g : Hp) : Option (Int32 × Hp) :=
  (rmI (a0 &&& 2147483647) a1).bind fun x1 =>
  some (x1, g)
set_option maxRecDepth 20000 in
theorem m_L_low (z : Nat) (a0 : Int32) (a1 : Int32) (g : Hp) : FM yL_low cL_low 2 (some .int) 0 0 rtI [sI a0, sI a1] g (f_L_low z a0 a1 g) := by
  refine FM.entry (by decide +kernel) (Nat.le_of_ble_eq_true rfl) (fun X hX => ?_)
  unfold f_L_low
  show J yL_low cL_low 2 (some .int) 0 0 X g 0 [(0, sI a0), (1, sI a1)] [] _
  refine j_iload_n (pc := 0) 0 dL_low_0 rfl rfl ?_
  refine j_ldc (pc := 1) (own := RL) (v := 2147483647) dL_low_1 rfl lk_L_7 ?_
  refine j_iand (pc := 3) dL_low_3 ?_
  refine j_iload_n (pc := 4) 1 dL_low_4 rfl rfl ?_
  refine b_irem (pc := 5) dL_low_5 rfl (fun x1 => ?_)
  exact j_ireturn dL_low_6 hX rfl rfl
/-! L_cell -/
noncomputable def f_L_cell (z : Nat) (L : Nat) (xs : Nat → Int32) (a0 : Option Nm) (a1 : Int32) (g : Hp) : Option (Int32 × Hp) :=
  (alnS a0 L).bind fun x1 =>
  if x1 ≤ a1 then (some (((40503 * a1) + 977), g))
  else ((aldS a0 a1 L xs).bind fun x2 =>
    some (x2, g))
set_option maxRecDepth 20000 in
theorem cell_mn {z L : Nat} {xs : Nat → Int32} {a0 : Option Nm} {a1 : Int32} {g g1 : Hp} {r : Int32} (h : f_L_cell z L xs a0 a1 g = some (r, g1)) : Mn g g1 := by
  have e : g1 = g := by
    unfold f_L_cell at h
    cases h1 : alnS a0 L with
    | none => rw [h1] at h; exact nomatch h
    | some w =>
      rw [h1] at h
      simp only [Option.bind_some] at h
      split at h
      · exact (congrArg Prod.snd (Option.some.inj h)).symm
      · cases h2 : aldS a0 a1 L xs with
        | none => rw [h2] at h; exact nomatch h
        | some w2 => rw [h2] at h; exact (congrArg Prod.snd (Option.some.inj h)).symm
  rw [e]; exact Mn.rf g
set_option maxRecDepth 20000 in
theorem m_L_cell (z : Nat) (L : Nat) (xs : Nat → Int32) (a0 : Option Nm) (a1 : Int32) (g : Hp) : FMS yL_cell cL_cell 2 (some .int) 0 0 rtI L xs [sR a0, sI a1] g (f_L_cell z L xs a0 a1 g) := by
  refine FMS.entry (by decide +kernel) (Nat.le_of_ble_eq_true rfl) (fun r g1 h => cell_mn h) (fun X h1 h2 => ?_)
  have hX : IsM rtI X ∧ IsS X L xs := ⟨h1, h2⟩
  unfold f_L_cell
  show J yL_cell cL_cell 2 (some .int) 0 0 X g 0 [(0, sR a0), (1, sI a1)] [] _
  refine j_iload_n (pc := 0) 1 dL_cell_0 rfl rfl ?_
  refine j_aload_n (pc := 1) 0 dL_cell_1 rfl rfl ?_
  refine j_alnS (pc := 2) dL_cell_2 hX.2 rfl (fun x1 => ?_)
  refine j_icmp_ge (pc := 3) (tgt := 12) dL_cell_3 (by decide) rfl (fun hc => ?_) (fun hc => ?_)
  · refine j_ldc (pc := 12) (own := RL) (v := 40503) dL_cell_12 rfl lk_L_8 ?_
    refine j_iload_n (pc := 14) 1 dL_cell_14 rfl rfl ?_
    refine j_imul (pc := 15) dL_cell_15 ?_
    refine j_sipush (pc := 16) (v := 977) dL_cell_16 (by decide) ?_
    refine j_iadd (pc := 19) dL_cell_19 ?_
    exact j_ireturn dL_cell_20 hX.1 rfl rfl
  · refine j_aload_n (pc := 6) 0 dL_cell_6 rfl rfl ?_
    refine j_iload_n (pc := 7) 1 dL_cell_7 rfl rfl ?_
    refine j_aldS (pc := 8) dL_cell_8 hX.2 rfl (fun x2 => ?_)
    refine j_goto (pc := 9) (tgt := 20) dL_cell_9 (by decide) ?_
    exact j_ireturn dL_cell_20 hX.1 rfl rfl
/-! L_law -/
noncomputable def f_L_law_251_b (z : Nat) (L : Nat) (xs : Nat → Int32) (p10 : Int32) (p9 : Int32) (p8 : Int32) (p7 : Int32) (p6 : Int32) (p5 : Option Nm) (p4 : Option Nm) (p3 : Int32) (p2 : Int32) (p1 : Option Nm) (p0 : Option Nm) (rec : Int32 → Int32 → Hp → Option (Int32 × Int32 × Hp)) (v12 : Int32) (v11 : Int32) (g : Hp) : Option (Int32 × Int32 × Hp) :=
  if p3 ≤ v12 then (some (v12, v11, g))
  else ((aldI p5 v12 g).bind fun x22 =>
    if x22 < 0 then (rec (v12 + 1) v11 g)
    else (if v11 < 0 then (rec (v12 + 1) v12 g)
      else ((aldI p5 v12 g).bind fun x23 =>
        (aldI p5 v11 g).bind fun x24 =>
        if x24 ≤ x23 then (rec (v12 + 1) v11 g)
        else (rec (v12 + 1) v12 g))))
noncomputable def f_L_law_251_L (z : Nat) (L : Nat) (xs : Nat → Int32) (p10 : Int32) (p9 : Int32) (p8 : Int32) (p7 : Int32) (p6 : Int32) (p5 : Option Nm) (p4 : Option Nm) (p3 : Int32) (p2 : Int32) (p1 : Option Nm) (p0 : Option Nm) : Nat → Int32 → Int32 → Hp → Option (Int32 × Int32 × Hp)
  | 0, _, _, _ => none
  | n + 1, v12, v11, g => f_L_law_251_b z L xs p10 p9 p8 p7 p6 p5 p4 p3 p2 p1 p0 (f_L_law_251_L z L xs p10 p9 p8 p7 p6 p5 p4 p3 p2 p1 p0 n) v12 v11 g
noncomputable def f_L_law_237_b (z : Nat) (L : Nat) (xs : Nat → Int32) (p7 : Int32) (p6 : Int32) (p5 : Option Nm) (p4 : Option Nm) (p3 : Int32) (p2 : Int32) (p1 : Option Nm) (p0 : Option Nm) (rec : Int32 → Int32 → Int32 → Hp → Option (Int32 × Hp)) (v10 : Int32) (v9 : Int32) (v8 : Int32) (g : Hp) : Option (Int32 × Hp) :=
  if 400 ≤ v10 then (if v9 = p3 then ((ick p1 9 (f_X8_later z p1 500 g)).bind fun q19 =>
      if q19.1 ≤ 0 then (some (0, q19.2))
      else ((ick p1 9 (f_X8_quake z p1 0 1 q19.2)).bind fun q20 =>
        if q20.1 = v8 then ((ick p1 9 (f_X8_holds z p1 0 p6 p7 q20.2)).bind fun q21 =>
          if q21.1 = 1 then (some (1, q21.2))
          else (some (0, q21.2)))
        else (some (0, q20.2))))
    else (some (0, g)))
  else ((f_L_law_251_L z L xs v10 v9 v8 p7 p6 p5 p4 p3 p2 p1 p0 z 0 (-1) g).bind fun q25 =>
    if 0 ≤ q25.2.1 then ((aldI p5 q25.2.1 q25.2.2).bind fun x26 =>
      (ick p1 9 (f_X8_count z p1 5 q25.2.2)).bind fun q27 =>
      (ick p1 9 (f_X8_later z p1 (x26 - q27.1) q27.2)).bind fun q28 =>
      if q28.1 = x26 then ((ick p1 9 (f_X8_pick z p1 q25.2.1 x26 1000 q28.2)).bind fun q29 =>
        ((if v9 = 0 then (some (10))
          else (some (0))) : Option (Int32)).bind fun q30 =>
        if q29.1 = q30 then ((astI p5 q25.2.1 (-1) q29.2).bind fun g31 =>
          (ick p1 9 (f_X8_quake z p1 0 1 g31)).bind fun q32 =>
          (ick p1 9 (f_X8_quake z p1 0 0 q32.2)).bind fun q33 =>
          if q33.1 = (v9 + 1) then (if q32.1 < 1 then (some (0, q33.2))
            else (if v8 < q32.1 then (some (0, q33.2))
              else ((ick p1 9 (f_X8_holds z p1 0 p6 p7 q33.2)).bind fun q34 =>
                if q34.1 = 1 then ((ick p1 9 (f_X8_quake z p1 0 4 q34.2)).bind fun q35 =>
                  if q35.1 = 0 then ((ick p1 9 (f_X8_count z p1 3 q35.2)).bind fun q36 =>
                    if q36.1 = 1 then ((ick p1 9 (f_X8_left z p1 0 0 q36.2)).bind fun q37 =>
                      (ick p1 9 (f_X8_late z p1 0 0 q37.2)).bind fun q38 =>
                      if q37.1 < 0 then (some (0, q38.2))
                      else (if q38.1 < 0 then (some (0, q38.2))
                        else (if q38.1 = 2 then (if q37.1 = 0 then (some (0, q38.2))
                            else (if q38.1 = 1 then (if q37.1 ≤ 0 then ((f_L_cell z L xs p0 (26 + (v9 + 1)) q38.2).bind fun q45 =>
                                  (f_L_low z q45.1 7 q45.2).bind fun q46 =>
                                  rec (v10 + (1 + q46.1)) (v9 + 1) q32.1 q46.2)
                                else (some (0, q38.2)))
                              else ((f_L_cell z L xs p0 (26 + (v9 + 1)) q38.2).bind fun q43 =>
                                (f_L_low z q43.1 7 q43.2).bind fun q44 =>
                                rec (v10 + (1 + q44.1)) (v9 + 1) q32.1 q44.2)))
                          else (if q38.1 = 1 then (if q37.1 ≤ 0 then ((f_L_cell z L xs p0 (26 + (v9 + 1)) q38.2).bind fun q41 =>
                                (f_L_low z q41.1 7 q41.2).bind fun q42 =>
                                rec (v10 + (1 + q42.1)) (v9 + 1) q32.1 q42.2)
                              else (some (0, q38.2)))
                            else ((f_L_cell z L xs p0 (26 + (v9 + 1)) q38.2).bind fun q39 =>
                              (f_L_low z q39.1 7 q39.2).bind fun q40 =>
                              rec (v10 + (1 + q40.1)) (v9 + 1) q32.1 q40.2)))))
                    else (some (0, q36.2)))
                  else (some (0, q35.2)))
                else (some (0, q34.2)))))
          else (some (0, q33.2)))
        else (some (0, q29.2)))
      else (some (0, q28.2)))
    else (if v9 = p3 then ((ick p1 9 (f_X8_later z p1 500 q25.2.2)).bind fun q47 =>
        if q47.1 ≤ 0 then (some (0, q47.2))
        else ((ick p1 9 (f_X8_quake z p1 0 1 q47.2)).bind fun q48 =>
          if q48.1 = v8 then ((ick p1 9 (f_X8_holds z p1 0 p6 p7 q48.2)).bind fun q49 =>
            if q49.1 = 1 then (some (1, q49.2))
            else (some (0, q49.2)))
          else (some (0, q48.2))))
      else (some (0, q25.2.2))))
noncomputable def f_L_law_237_L (z : Nat) (L : Nat) (xs : Nat → Int32) (p7 : Int32) (p6 : Int32) (p5 : Option Nm) (p4 : Option Nm) (p3 : Int32) (p2 : Int32) (p1 : Option Nm) (p0 : Option Nm) : Nat → Int32 → Int32 → Int32 → Hp → Option (Int32 × Hp)
  | 0, _, _, _, _ => none
  | n + 1, v10, v9, v8, g => f_L_law_237_b z L xs p7 p6 p5 p4 p3 p2 p1 p0 (f_L_law_237_L z L xs p7 p6 p5 p4 p3 p2 p1 p0 n) v10 v9 v8 g
noncomputable def f_L_law_117_b (z : Nat) (L : Nat) (xs : Nat → Int32) (p7 : Int32) (p6 : Int32) (p5 : Option Nm) (p4 : Option Nm) (p3 : Int32) (p2 : Int32) (p1 : Option Nm) (p0 : Option Nm) (rec : Int32 → Hp → Option (Int32 × Hp)) (v8 : Int32) (g : Hp) : Option (Int32 × Hp) :=
  if p3 ≤ v8 then (f_L_law_237_L z L xs p7 p6 p5 p4 p3 p2 p1 p0 z 0 0 145 g)
  else ((f_L_cell z L xs p0 (6 + v8) g).bind fun q51 =>
    (f_L_low z q51.1 144 q51.2).bind fun q52 =>
    (astI p4 v8 q52.1 q52.2).bind fun g53 =>
    (aldI p4 v8 g53).bind fun x54 =>
    (ick p1 9 (f_X8_station z p1 x54 g53)).bind fun q55 =>
    if q55.1 = v8 then ((aldI p4 v8 q55.2).bind fun x56 =>
      (ick p1 9 (f_X8_travel z p1 p6 x56 q55.2)).bind fun q57 =>
      (f_L_cell z L xs p0 (16 + v8) q57.2).bind fun q58 =>
      (f_L_low z q58.1 ((2 * p2) + 1) q58.2).bind fun q59 =>
      (astI p5 v8 (((p7 + q57.1) + q59.1) - p2) q59.2).bind fun g60 =>
      (aldI p5 v8 g60).bind fun x61 =>
      if 0 ≤ x61 then ((aldI p5 v8 g60).bind fun x62 =>
        (astI p5 v8 x62 g60).bind fun g63 =>
        rec (v8 + 1) g63)
      else ((astI p5 v8 0 g60).bind fun g64 =>
        rec (v8 + 1) g64))
    else (some (0, q55.2)))
noncomputable def f_L_law_117_L (z : Nat) (L : Nat) (xs : Nat → Int32) (p7 : Int32) (p6 : Int32) (p5 : Option Nm) (p4 : Option Nm) (p3 : Int32) (p2 : Int32) (p1 : Option Nm) (p0 : Option Nm) : Nat → Int32 → Hp → Option (Int32 × Hp)
  | 0, _, _ => none
  | n + 1, v8, g => f_L_law_117_b z L xs p7 p6 p5 p4 p3 p2 p1 p0 (f_L_law_117_L z L xs p7 p6 p5 p4 p3 p2 p1 p0 n) v8 g
noncomputable def f_L_law (z : Nat) (L : Nat) (xs : Nat → Int32) (a0 : Option Nm) (g : Hp) : Option (Int32 × Hp) :=
  (mkO (9, 0) 9 g).bind fun q1 =>
  (nnl q1.1 (f_X8_init z q1.1 q1.2)).bind fun q2 =>
  (f_L_cell z L xs a0 0 q2.2).bind fun q3 =>
  (f_L_low z q3.1 8 q3.2).bind fun q4 =>
  (f_L_cell z L xs a0 1 q4.2).bind fun q5 =>
  (f_L_low z q5.1 7 q5.2).bind fun q6 =>
  (f_L_cell z L xs a0 2 q6.2).bind fun q7 =>
  (f_L_low z q7.1 300 q7.2).bind fun q8 =>
  (ick q1.1 9 (f_X8_rule z q1.1 (1 + q8.1) q4.1 q8.2)).bind fun q9 =>
  if q9.1 = 1 then ((f_L_cell z L xs a0 3 q9.2).bind fun q10 =>
    (f_L_low z q10.1 144 q10.2).bind fun q11 =>
    (ick q1.1 9 (f_X8_town z q1.1 q11.1 q11.2)).bind fun q12 =>
    if q12.1 = 0 then ((mkI (29, 0) 9 q12.2).bind fun q13 =>
      (mkI (30, 0) 9 q13.2).bind fun q14 =>
      (f_L_cell z L xs a0 4 q14.2).bind fun q15 =>
      (f_L_low z q15.1 144 q15.2).bind fun q16 =>
      (f_L_cell z L xs a0 5 q16.2).bind fun q17 =>
      (f_L_low z q17.1 50 q17.2).bind fun q18 =>
      f_L_law_117_L z L xs (10 + q18.1) q16.1 q14.1 q13.1 (2 + q6.1) q4.1 q1.1 a0 z 0 q18.2)
    else (some (0, q12.2)))
  else (some (0, q9.2))
set_option maxRecDepth 20000 in
theorem b_L_law_251 {X : Xt Int32} {L : Nat} {xs : Nat → Int32} (hX : IsL X L xs) (z : Nat) (p10 : Int32) (p9 : Int32) (p8 : Int32) (p7 : Int32) (p6 : Int32) (p5 : Option Nm) (p4 : Option Nm) (p3 : Int32) (p2 : Int32) (p1 : Option Nm) (p0 : Option Nm) (rec : Int32 → Int32 → Hp → Option (Int32 × Int32 × Hp)) (K : Int32 × Int32 × Hp → Option (Int32 × Hp)) (he : ∀ (v12 : Int32) (v11 : Int32) (g : Hp), J yL_law cL_law 17 (some .boolean) 10 380 X g 298 [(12, sI v12), (11, sI v11), (10, sI p10), (9, sI p9), (8, sI p8), (7, sI p7), (6, sI p6), (5, sR p5), (4, sR p4), (3, sI p3), (2, sI p2), (1, sR p1), (0, sR p0)] [] (K (v12, v11, g))) (hr : ∀ (v12 : Int32) (v11 : Int32) (g : Hp), J yL_law cL_law 17 (some .boolean) 10 380 X g 251 [(12, sI v12), (11, sI v11), (10, sI p10), (9, sI p9), (8, sI p8), (7, sI p7), (6, sI p6), (5, sR p5), (4, sR p4), (3, sI p3), (2, sI p2), (1, sR p1), (0, sR p0)] [] ((rec v12 v11 g).bind K)) (v12 : Int32) (v11 : Int32) (g : Hp) : J yL_law cL_law 17 (some .boolean) 10 380 X g 251 [(12, sI v12), (11, sI v11), (10, sI p10), (9, sI p9), (8, sI p8), (7, sI p7), (6, sI p6), (5, sR p5), (4, sR p4), (3, sI p3), (2, sI p2), (1, sR p1), (0, sR p0)] [] ((f_L_law_251_b z L xs p10 p9 p8 p7 p6 p5 p4 p3 p2 p1 p0 rec v12 v11 g).bind K) := by
  unfold f_L_law_251_b
  refine j_iload (pc := 251) 0 dL_law_251 rfl ?_
  refine j_iload_n (pc := 253) 9 dL_law_253 rfl rfl ?_
  refine j_icmp_ge (pc := 254) (tgt := 298) dL_law_254 (by decide) bi (fun hc => ?_) (fun hc => ?_)
  · exact he v12 v11 g
  · refine j_aload (pc := 257) 7 dL_law_257 rfl ?_
    refine j_iload (pc := 259) 0 dL_law_259 rfl ?_
    refine j_aldI (pc := 261) dL_law_261 bb (fun x22 => ?_)
    refine j_if_lt (pc := 262) (tgt := 288) dL_law_262 (by decide) bi (fun hc => ?_) (fun hc => ?_)
    · refine j_iload (pc := 288) 1 dL_law_288 rfl ?_
      refine j_istore (pc := 290) (lv' := [(11, sI v11), (12, sI v12), (10, sI p10), (9, sI p9), (8, sI p8), (7, sI p7), (6, sI p6), (5, sR p5), (4, sR p4), (3, sI p3), (2, sI p2), (1, sR p1), (0, sR p0)]) dL_law_290 (by decide) rfl ?_
      refine j_iinc (pc := 292) (v := (v12 + 1)) (lv' := [(12, sI (v12 + 1)), (11, sI v11), (10, sI p10), (9, sI p9), (8, sI p8), (7, sI p7), (6, sI p6), (5, sR p5), (4, sR p4), (3, sI p3), (2, sI p2), (1, sR p1), (0, sR p0)]) 1 dL_law_292 rfl rfl (by decide) rfl ?_
      refine j_goto (pc := 295) (tgt := 251) dL_law_295 (by decide) ?_
      exact hr (v12 + 1) v11 g
    · refine j_iload (pc := 265) 1 dL_law_265 rfl ?_
      refine j_if_lt (pc := 267) (tgt := 283) dL_law_267 (by decide) bi (fun hc => ?_) (fun hc => ?_)
      · refine j_iload (pc := 283) 0 dL_law_283 rfl ?_
        refine j_goto (pc := 285) (tgt := 290) dL_law_285 (by decide) ?_
        refine j_istore (pc := 290) (lv' := [(11, sI v12), (12, sI v12), (10, sI p10), (9, sI p9), (8, sI p8), (7, sI p7), (6, sI p6), (5, sR p5), (4, sR p4), (3, sI p3), (2, sI p2), (1, sR p1), (0, sR p0)]) dL_law_290 (by decide) rfl ?_
        refine j_iinc (pc := 292) (v := (v12 + 1)) (lv' := [(12, sI (v12 + 1)), (11, sI v12), (10, sI p10), (9, sI p9), (8, sI p8), (7, sI p7), (6, sI p6), (5, sR p5), (4, sR p4), (3, sI p3), (2, sI p2), (1, sR p1), (0, sR p0)]) 1 dL_law_292 rfl rfl (by decide) rfl ?_
        refine j_goto (pc := 295) (tgt := 251) dL_law_295 (by decide) ?_
        exact hr (v12 + 1) v12 g
      · refine j_aload (pc := 270) 7 dL_law_270 rfl ?_
        refine j_iload (pc := 272) 0 dL_law_272 rfl ?_
        refine j_aldI (pc := 274) dL_law_274 bb (fun x23 => ?_)
        refine j_aload (pc := 275) 7 dL_law_275 rfl ?_
        refine j_iload (pc := 277) 1 dL_law_277 rfl ?_
        refine j_aldI (pc := 279) dL_law_279 bb (fun x24 => ?_)
        refine j_icmp_ge (pc := 280) (tgt := 288) dL_law_280 (by decide) bi (fun hc => ?_) (fun hc => ?_)
        · refine j_iload (pc := 288) 1 dL_law_288 rfl ?_
          refine j_istore (pc := 290) (lv' := [(11, sI v11), (12, sI v12), (10, sI p10), (9, sI p9), (8, sI p8), (7, sI p7), (6, sI p6), (5, sR p5), (4, sR p4), (3, sI p3), (2, sI p2), (1, sR p1), (0, sR p0)]) dL_law_290 (by decide) rfl ?_
          refine j_iinc (pc := 292) (v := (v12 + 1)) (lv' := [(12, sI (v12 + 1)), (11, sI v11), (10, sI p10), (9, sI p9), (8, sI p8), (7, sI p7), (6, sI p6), (5, sR p5), (4, sR p4), (3, sI p3), (2, sI p2), (1, sR p1), (0, sR p0)]) 1 dL_law_292 rfl rfl (by decide) rfl ?_
          refine j_goto (pc := 295) (tgt := 251) dL_law_295 (by decide) ?_
          exact hr (v12 + 1) v11 g
        · refine j_iload (pc := 283) 0 dL_law_283 rfl ?_
          refine j_goto (pc := 285) (tgt := 290) dL_law_285 (by decide) ?_
          refine j_istore (pc := 290) (lv' := [(11, sI v12), (12, sI v12), (10, sI p10), (9, sI p9), (8, sI p8), (7, sI p7), (6, sI p6), (5, sR p5), (4, sR p4), (3, sI p3), (2, sI p2), (1, sR p1), (0, sR p0)]) dL_law_290 (by decide) rfl ?_
          refine j_iinc (pc := 292) (v := (v12 + 1)) (lv' := [(12, sI (v12 + 1)), (11, sI v12), (10, sI p10), (9, sI p9), (8, sI p8), (7, sI p7), (6, sI p6), (5, sR p5), (4, sR p4), (3, sI p3), (2, sI p2), (1, sR p1), (0, sR p0)]) 1 dL_law_292 rfl rfl (by decide) rfl ?_
          refine j_goto (pc := 295) (tgt := 251) dL_law_295 (by decide) ?_
          exact hr (v12 + 1) v12 g
set_option maxRecDepth 20000 in
theorem l_L_law_251 {X : Xt Int32} {L : Nat} {xs : Nat → Int32} (hX : IsL X L xs) (z : Nat) (p10 : Int32) (p9 : Int32) (p8 : Int32) (p7 : Int32) (p6 : Int32) (p5 : Option Nm) (p4 : Option Nm) (p3 : Int32) (p2 : Int32) (p1 : Option Nm) (p0 : Option Nm) (K : Int32 × Int32 × Hp → Option (Int32 × Hp)) (he : ∀ (v12 : Int32) (v11 : Int32) (g : Hp), J yL_law cL_law 17 (some .boolean) 10 380 X g 298 [(12, sI v12), (11, sI v11), (10, sI p10), (9, sI p9), (8, sI p8), (7, sI p7), (6, sI p6), (5, sR p5), (4, sR p4), (3, sI p3), (2, sI p2), (1, sR p1), (0, sR p0)] [] (K (v12, v11, g))) : ∀ (n : Nat) (v12 : Int32) (v11 : Int32) (g : Hp), J yL_law cL_law 17 (some .boolean) 10 380 X g 251 [(12, sI v12), (11, sI v11), (10, sI p10), (9, sI p9), (8, sI p8), (7, sI p7), (6, sI p6), (5, sR p5), (4, sR p4), (3, sI p3), (2, sI p2), (1, sR p1), (0, sR p0)] [] ((f_L_law_251_L z L xs p10 p9 p8 p7 p6 p5 p4 p3 p2 p1 p0 n v12 v11 g).bind K)
  | 0, _, _, _ => J.eq rfl J.none
  | n + 1, v12, v11, g => b_L_law_251 hX z p10 p9 p8 p7 p6 p5 p4 p3 p2 p1 p0 _ K he (fun v12 v11 g => l_L_law_251 hX z p10 p9 p8 p7 p6 p5 p4 p3 p2 p1 p0 K he n v12 v11 g) v12 v11 g
set_option maxRecDepth 20000 in
theorem b_L_law_237 {X : Xt Int32} {L : Nat} {xs : Nat → Int32} (hX : IsL X L xs) (z : Nat) (p7 : Int32) (p6 : Int32) (p5 : Option Nm) (p4 : Option Nm) (p3 : Int32) (p2 : Int32) (p1 : Option Nm) (p0 : Option Nm) (rec : Int32 → Int32 → Int32 → Hp → Option (Int32 × Hp)) (hr : ∀ (v10 : Int32) (v9 : Int32) (v8 : Int32) (g : Hp), J yL_law cL_law 17 (some .boolean) 10 380 X g 237 [(10, sI v10), (9, sI v9), (8, sI v8), (7, sI p7), (6, sI p6), (5, sR p5), (4, sR p4), (3, sI p3), (2, sI p2), (1, sR p1), (0, sR p0)] [] (rec v10 v9 v8 g)) (v10 : Int32) (v9 : Int32) (v8 : Int32) (g : Hp) : J yL_law cL_law 17 (some .boolean) 10 380 X g 237 [(10, sI v10), (9, sI v9), (8, sI v8), (7, sI p7), (6, sI p6), (5, sR p5), (4, sR p4), (3, sI p3), (2, sI p2), (1, sR p1), (0, sR p0)] [] (f_L_law_237_b z L xs p7 p6 p5 p4 p3 p2 p1 p0 rec v10 v9 v8 g) := by
  unfold f_L_law_237_b
  refine j_iload (pc := 237) 0 dL_law_237 rfl ?_
  refine j_sipush (pc := 239) (v := 400) dL_law_239 (by decide) ?_
  refine j_icmp_ge (pc := 242) (tgt := 515) dL_law_242 (by decide) rfl (fun hc => ?_) (fun hc => ?_)
  · refine j_iload (pc := 515) 1 dL_law_515 rfl ?_
    refine j_iload_n (pc := 517) 7 dL_law_517 rfl rfl ?_
    refine j_icmp_ne (pc := 518) (tgt := 559) dL_law_518 (by decide) rfl (fun hc => ?_) (fun hc => ?_)
    · refine j_iconst (pc := 559) (v := 0) dL_law_559 (by decide) ?_
      exact j_lawret dL_law_560 hX rfl
    · refine j_aload_n (pc := 521) 9 dL_law_521 rfl rfl ?_
      refine j_sipush (pc := 522) (v := 500) dL_law_522 (by decide) ?_
      refine j_callV (pc := 525) (own := RL) [sI 500] [] dL_law_525 lc_L_38 lv_X8_later rfl (m_X8_later z p1 500 g) ⟨⟨Nat.le_of_ble_eq_true rfl, Nat.le_of_ble_eq_true rfl⟩, Nat.le_of_ble_eq_true rfl⟩ rfl rfl (fun q19r q19g => ?_)
      refine j_if_le (pc := 528) (tgt := 559) dL_law_528 (by decide) rfl (fun hc => ?_) (fun hc => ?_)
      · refine j_iconst (pc := 559) (v := 0) dL_law_559 (by decide) ?_
        exact j_lawret dL_law_560 hX rfl
      · refine j_aload_n (pc := 531) 9 dL_law_531 rfl rfl ?_
        refine j_iconst (pc := 532) (v := 0) dL_law_532 (by decide) ?_
        refine j_iconst (pc := 533) (v := 1) dL_law_533 (by decide) ?_
        refine j_callV (pc := 534) (own := RL) [sI 0, sI 1] [] dL_law_534 lc_L_45 lv_X8_quake rfl (m_X8_quake z p1 0 1 q19g) ⟨⟨Nat.le_of_ble_eq_true rfl, Nat.le_of_ble_eq_true rfl⟩, Nat.le_of_ble_eq_true rfl⟩ rfl rfl (fun q20r q20g => ?_)
        refine j_iload (pc := 537) 2 dL_law_537 rfl ?_
        refine j_icmp_ne (pc := 539) (tgt := 559) dL_law_539 (by decide) rfl (fun hc => ?_) (fun hc => ?_)
        · refine j_iconst (pc := 559) (v := 0) dL_law_559 (by decide) ?_
          exact j_lawret dL_law_560 hX rfl
        · refine j_aload_n (pc := 542) 9 dL_law_542 rfl rfl ?_
          refine j_iconst (pc := 543) (v := 0) dL_law_543 (by decide) ?_
          refine j_iload (pc := 544) 4 dL_law_544 rfl ?_
          refine j_iload (pc := 546) 3 dL_law_546 rfl ?_
          refine j_callV (pc := 548) (own := RL) [sI 0, sI p6, sI p7] [] dL_law_548 lc_L_48 lv_X8_holds rfl (m_X8_holds z p1 0 p6 p7 q20g) ⟨⟨Nat.le_of_ble_eq_true rfl, Nat.le_of_ble_eq_true rfl⟩, Nat.le_of_ble_eq_true rfl⟩ rfl rfl (fun q21r q21g => ?_)
          refine j_iconst (pc := 551) (v := 1) dL_law_551 (by decide) ?_
          refine j_icmp_ne (pc := 552) (tgt := 559) dL_law_552 (by decide) rfl (fun hc => ?_) (fun hc => ?_)
          · refine j_iconst (pc := 559) (v := 0) dL_law_559 (by decide) ?_
            exact j_lawret dL_law_560 hX rfl
          · refine j_iconst (pc := 555) (v := 1) dL_law_555 (by decide) ?_
            refine j_goto (pc := 556) (tgt := 560) dL_law_556 (by decide) ?_
            exact j_lawret dL_law_560 hX rfl
  · refine j_iconst (pc := 245) (v := (-1)) dL_law_245 (by decide) ?_
    refine j_istore (pc := 246) (lv' := [(11, sI (-1)), (10, sI v10), (9, sI v9), (8, sI v8), (7, sI p7), (6, sI p6), (5, sR p5), (4, sR p4), (3, sI p3), (2, sI p2), (1, sR p1), (0, sR p0)]) dL_law_246 (by decide) rfl ?_
    refine j_iconst (pc := 248) (v := 0) dL_law_248 (by decide) ?_
    refine j_istore (pc := 249) (lv' := [(12, sI 0), (11, sI (-1)), (10, sI v10), (9, sI v9), (8, sI v8), (7, sI p7), (6, sI p6), (5, sR p5), (4, sR p4), (3, sI p3), (2, sI p2), (1, sR p1), (0, sR p0)]) dL_law_249 (by decide) rfl ?_
    refine l_L_law_251 hX z v10 v9 v8 p7 p6 p5 p4 p3 p2 p1 p0 _ (fun q25_0 q25_1 q25_g => ?_) z 0 (-1) g
    refine j_iload (pc := 298) 1 dL_law_298 rfl ?_
    refine j_if_ge (pc := 300) (tgt := 306) dL_law_300 (by decide) rfl (fun hc => ?_) (fun hc => ?_)
    · refine j_aload (pc := 306) 7 dL_law_306 rfl ?_
      refine j_iload (pc := 308) 1 dL_law_308 rfl ?_
      refine j_aldI (pc := 310) dL_law_310 rfl (fun x26 => ?_)
      refine j_istore (pc := 311) (lv' := [(12, sI x26), (11, sI q25_1), (10, sI v10), (9, sI v9), (8, sI v8), (7, sI p7), (6, sI p6), (5, sR p5), (4, sR p4), (3, sI p3), (2, sI p2), (1, sR p1), (0, sR p0)]) dL_law_311 (by decide) rfl ?_
      refine j_aload_n (pc := 313) 11 dL_law_313 rfl rfl ?_
      refine j_iload (pc := 314) 0 dL_law_314 rfl ?_
      refine j_aload_n (pc := 316) 11 dL_law_316 rfl rfl ?_
      refine j_iconst (pc := 317) (v := 5) dL_law_317 (by decide) ?_
      refine j_callV (pc := 318) (own := RL) [sI 5] [sI x26, sR p1] dL_law_318 lc_L_35 lv_X8_count rfl (m_X8_count z p1 5 q25_g) ⟨⟨Nat.le_of_ble_eq_true rfl, Nat.le_of_ble_eq_true rfl⟩, Nat.le_of_ble_eq_true rfl⟩ rfl rfl (fun q27r q27g => ?_)
      refine j_isub (pc := 321) dL_law_321 ?_
      refine j_callV (pc := 322) (own := RL) [sI (x26 - q27r)] [] dL_law_322 lc_L_38 lv_X8_later rfl (m_X8_later z p1 (x26 - q27r) q27g) ⟨⟨Nat.le_of_ble_eq_true rfl, Nat.le_of_ble_eq_true rfl⟩, Nat.le_of_ble_eq_true rfl⟩ rfl rfl (fun q28r q28g => ?_)
      refine j_iload (pc := 325) 0 dL_law_325 rfl ?_
      refine j_icmp_eq (pc := 327) (tgt := 332) dL_law_327 (by decide) rfl (fun hc => ?_) (fun hc => ?_)
      · refine j_aload_n (pc := 332) 11 dL_law_332 rfl rfl ?_
        refine j_iload (pc := 333) 1 dL_law_333 rfl ?_
        refine j_iload (pc := 335) 0 dL_law_335 rfl ?_
        refine j_sipush (pc := 337) (v := 1000) dL_law_337 (by decide) ?_
        refine j_callV (pc := 340) (own := RL) [sI q25_1, sI x26, sI 1000] [] dL_law_340 lc_L_41 lv_X8_pick rfl (m_X8_pick z p1 q25_1 x26 1000 q28g) ⟨⟨Nat.le_of_ble_eq_true rfl, Nat.le_of_ble_eq_true rfl⟩, Nat.le_of_ble_eq_true rfl⟩ rfl rfl (fun q29r q29g => ?_)
        refine j_istore (pc := 343) (lv' := [(13, sI q29r), (12, sI x26), (11, sI q25_1), (10, sI v10), (9, sI v9), (8, sI v8), (7, sI p7), (6, sI p6), (5, sR p5), (4, sR p4), (3, sI p3), (2, sI p2), (1, sR p1), (0, sR p0)]) dL_law_343 (by decide) rfl ?_
        refine j_iload (pc := 345) 0 dL_law_345 rfl ?_
        refine j_iload (pc := 347) 4 dL_law_347 rfl ?_
        refine J.jn (σ := Int32) (fun q30 pr => J yL_law cL_law 17 (some .boolean) 10 380 X q29g 358 [(13, sI q29r), (12, sI x26), (11, sI q25_1), (10, sI v10), (9, sI v9), (8, sI v8), (7, sI p7), (6, sI p6), (5, sR p5), (4, sR p4), (3, sI p3), (2, sI p2), (1, sR p1), (0, sR p0)] [sI q30, sI q29r] pr) (fun K358 hK358 => ?_) (fun q30 => ?_)
        · refine j_if_ne (pc := 349) (tgt := 357) dL_law_349 (by decide) bi (fun hc => ?_) (fun hc => ?_)
          · refine j_iconst (pc := 357) (v := 0) dL_law_357 (by decide) ?_
            exact hK358 (0)
          · refine j_bipush (pc := 352) (v := 10) dL_law_352 (by decide) ?_
            refine j_goto (pc := 354) (tgt := 358) dL_law_354 (by decide) ?_
            exact hK358 (10)
        · refine j_icmp_eq (pc := 358) (tgt := 363) dL_law_358 (by decide) rfl (fun hc => ?_) (fun hc => ?_)
          · refine j_iinc (pc := 363) (v := (v9 + 1)) (lv' := [(9, sI (v9 + 1)), (13, sI q29r), (12, sI x26), (11, sI q25_1), (10, sI v10), (8, sI v8), (7, sI p7), (6, sI p6), (5, sR p5), (4, sR p4), (3, sI p3), (2, sI p2), (1, sR p1), (0, sR p0)]) 4 dL_law_363 rfl rfl (by decide) rfl ?_
            refine j_aload (pc := 366) 8 dL_law_366 rfl ?_
            refine j_iload (pc := 368) 3 dL_law_368 rfl ?_
            refine j_iconst (pc := 370) (v := (-1)) dL_law_370 (by decide) ?_
            refine j_astI (pc := 371) dL_law_371 rfl (fun g31 => ?_)
            refine j_aload_n (pc := 372) 12 dL_law_372 rfl rfl ?_
            refine j_iconst (pc := 373) (v := 0) dL_law_373 (by decide) ?_
            refine j_iconst (pc := 374) (v := 1) dL_law_374 (by decide) ?_
            refine j_callV (pc := 375) (own := RL) [sI 0, sI 1] [] dL_law_375 lc_L_45 lv_X8_quake rfl (m_X8_quake z p1 0 1 g31) ⟨⟨Nat.le_of_ble_eq_true rfl, Nat.le_of_ble_eq_true rfl⟩, Nat.le_of_ble_eq_true rfl⟩ rfl rfl (fun q32r q32g => ?_)
            refine j_istore (pc := 378) (lv' := [(14, sI q32r), (9, sI (v9 + 1)), (13, sI q29r), (12, sI x26), (11, sI q25_1), (10, sI v10), (8, sI v8), (7, sI p7), (6, sI p6), (5, sR p5), (4, sR p4), (3, sI p3), (2, sI p2), (1, sR p1), (0, sR p0)]) dL_law_378 (by decide) rfl ?_
            refine j_aload_n (pc := 380) 13 dL_law_380 rfl rfl ?_
            refine j_iconst (pc := 381) (v := 0) dL_law_381 (by decide) ?_
            refine j_iconst (pc := 382) (v := 0) dL_law_382 (by decide) ?_
            refine j_callV (pc := 383) (own := RL) [sI 0, sI 0] [] dL_law_383 lc_L_45 lv_X8_quake rfl (m_X8_quake z p1 0 0 q32g) ⟨⟨Nat.le_of_ble_eq_true rfl, Nat.le_of_ble_eq_true rfl⟩, Nat.le_of_ble_eq_true rfl⟩ rfl rfl (fun q33r q33g => ?_)
            refine j_iload (pc := 386) 1 dL_law_386 rfl ?_
            refine j_icmp_ne (pc := 388) (tgt := 435) dL_law_388 (by decide) rfl (fun hc => ?_) (fun hc => ?_)
            · refine j_iconst (pc := 435) (v := 0) dL_law_435 (by decide) ?_
              exact j_lawret dL_law_436 hX rfl
            · refine j_iload (pc := 391) 0 dL_law_391 rfl ?_
              refine j_iconst (pc := 393) (v := 1) dL_law_393 (by decide) ?_
              refine j_icmp_lt (pc := 394) (tgt := 435) dL_law_394 (by decide) rfl (fun hc => ?_) (fun hc => ?_)
              · refine j_iconst (pc := 435) (v := 0) dL_law_435 (by decide) ?_
                exact j_lawret dL_law_436 hX rfl
              · refine j_iload (pc := 397) 0 dL_law_397 rfl ?_
                refine j_iload (pc := 399) 6 dL_law_399 rfl ?_
                refine j_icmp_gt (pc := 401) (tgt := 435) dL_law_401 (by decide) rfl (fun hc => ?_) (fun hc => ?_)
                · refine j_iconst (pc := 435) (v := 0) dL_law_435 (by decide) ?_
                  exact j_lawret dL_law_436 hX rfl
                · refine j_aload_n (pc := 404) 13 dL_law_404 rfl rfl ?_
                  refine j_iconst (pc := 405) (v := 0) dL_law_405 (by decide) ?_
                  refine j_iload (pc := 406) 8 dL_law_406 rfl ?_
                  refine j_iload (pc := 408) 7 dL_law_408 rfl ?_
                  refine j_callV (pc := 410) (own := RL) [sI 0, sI p6, sI p7] [] dL_law_410 lc_L_48 lv_X8_holds rfl (m_X8_holds z p1 0 p6 p7 q33g) ⟨⟨Nat.le_of_ble_eq_true rfl, Nat.le_of_ble_eq_true rfl⟩, Nat.le_of_ble_eq_true rfl⟩ rfl rfl (fun q34r q34g => ?_)
                  refine j_iconst (pc := 413) (v := 1) dL_law_413 (by decide) ?_
                  refine j_icmp_ne (pc := 414) (tgt := 435) dL_law_414 (by decide) rfl (fun hc => ?_) (fun hc => ?_)
                  · refine j_iconst (pc := 435) (v := 0) dL_law_435 (by decide) ?_
                    exact j_lawret dL_law_436 hX rfl
                  · refine j_aload_n (pc := 417) 13 dL_law_417 rfl rfl ?_
                    refine j_iconst (pc := 418) (v := 0) dL_law_418 (by decide) ?_
                    refine j_iconst (pc := 419) (v := 4) dL_law_419 (by decide) ?_
                    refine j_callV (pc := 420) (own := RL) [sI 0, sI 4] [] dL_law_420 lc_L_45 lv_X8_quake rfl (m_X8_quake z p1 0 4 q34g) ⟨⟨Nat.le_of_ble_eq_true rfl, Nat.le_of_ble_eq_true rfl⟩, Nat.le_of_ble_eq_true rfl⟩ rfl rfl (fun q35r q35g => ?_)
                    refine j_if_ne (pc := 423) (tgt := 435) dL_law_423 (by decide) rfl (fun hc => ?_) (fun hc => ?_)
                    · refine j_iconst (pc := 435) (v := 0) dL_law_435 (by decide) ?_
                      exact j_lawret dL_law_436 hX rfl
                    · refine j_aload_n (pc := 426) 13 dL_law_426 rfl rfl ?_
                      refine j_iconst (pc := 427) (v := 3) dL_law_427 (by decide) ?_
                      refine j_callV (pc := 428) (own := RL) [sI 3] [] dL_law_428 lc_L_35 lv_X8_count rfl (m_X8_count z p1 3 q35g) ⟨⟨Nat.le_of_ble_eq_true rfl, Nat.le_of_ble_eq_true rfl⟩, Nat.le_of_ble_eq_true rfl⟩ rfl rfl (fun q36r q36g => ?_)
                      refine j_iconst (pc := 431) (v := 1) dL_law_431 (by decide) ?_
                      refine j_icmp_eq (pc := 432) (tgt := 437) dL_law_432 (by decide) rfl (fun hc => ?_) (fun hc => ?_)
                      · refine j_iload (pc := 437) 0 dL_law_437 rfl ?_
                        refine j_istore (pc := 439) (lv' := [(8, sI q32r), (14, sI q32r), (9, sI (v9 + 1)), (13, sI q29r), (12, sI x26), (11, sI q25_1), (10, sI v10), (7, sI p7), (6, sI p6), (5, sR p5), (4, sR p4), (3, sI p3), (2, sI p2), (1, sR p1), (0, sR p0)]) dL_law_439 (by decide) rfl ?_
                        refine j_aload_n (pc := 441) 13 dL_law_441 rfl rfl ?_
                        refine j_iconst (pc := 442) (v := 0) dL_law_442 (by decide) ?_
                        refine j_iconst (pc := 443) (v := 0) dL_law_443 (by decide) ?_
                        refine j_callV (pc := 444) (own := RL) [sI 0, sI 0] [] dL_law_444 lc_L_51 lv_X8_left rfl (m_X8_left z p1 0 0 q36g) ⟨⟨Nat.le_of_ble_eq_true rfl, Nat.le_of_ble_eq_true rfl⟩, Nat.le_of_ble_eq_true rfl⟩ rfl rfl (fun q37r q37g => ?_)
                        refine j_istore (pc := 447) (lv' := [(15, sI q37r), (8, sI q32r), (14, sI q32r), (9, sI (v9 + 1)), (13, sI q29r), (12, sI x26), (11, sI q25_1), (10, sI v10), (7, sI p7), (6, sI p6), (5, sR p5), (4, sR p4), (3, sI p3), (2, sI p2), (1, sR p1), (0, sR p0)]) dL_law_447 (by decide) rfl ?_
                        refine j_aload_n (pc := 449) 14 dL_law_449 rfl rfl ?_
                        refine j_iconst (pc := 450) (v := 0) dL_law_450 (by decide) ?_
                        refine j_iconst (pc := 451) (v := 0) dL_law_451 (by decide) ?_
                        refine j_callV (pc := 452) (own := RL) [sI 0, sI 0] [] dL_law_452 lc_L_54 lv_X8_late rfl (m_X8_late z p1 0 0 q37g) ⟨⟨Nat.le_of_ble_eq_true rfl, Nat.le_of_ble_eq_true rfl⟩, Nat.le_of_ble_eq_true rfl⟩ rfl rfl (fun q38r q38g => ?_)
                        refine j_istore (pc := 455) (lv' := [(16, sI q38r), (15, sI q37r), (8, sI q32r), (14, sI q32r), (9, sI (v9 + 1)), (13, sI q29r), (12, sI x26), (11, sI q25_1), (10, sI v10), (7, sI p7), (6, sI p6), (5, sR p5), (4, sR p4), (3, sI p3), (2, sI p2), (1, sR p1), (0, sR p0)]) dL_law_455 (by decide) rfl ?_
                        refine j_iload (pc := 457) 1 dL_law_457 rfl ?_
                        refine j_if_lt (pc := 459) (tgt := 489) dL_law_459 (by decide) rfl (fun hc => ?_) (fun hc => ?_)
                        · refine j_iconst (pc := 489) (v := 0) dL_law_489 (by decide) ?_
                          exact j_lawret dL_law_490 hX rfl
                        · refine j_iload (pc := 462) 0 dL_law_462 rfl ?_
                          refine j_if_lt (pc := 464) (tgt := 489) dL_law_464 (by decide) rfl (fun hc => ?_) (fun hc => ?_)
                          · refine j_iconst (pc := 489) (v := 0) dL_law_489 (by decide) ?_
                            exact j_lawret dL_law_490 hX rfl
                          · refine j_iload (pc := 467) 0 dL_law_467 rfl ?_
                            refine j_iconst (pc := 469) (v := 2) dL_law_469 (by decide) ?_
                            refine j_icmp_ne (pc := 470) (tgt := 478) dL_law_470 (by decide) rfl (fun hc => ?_) (fun hc => ?_)
                            · refine j_iload (pc := 478) 0 dL_law_478 rfl ?_
                              refine j_iconst (pc := 480) (v := 1) dL_law_480 (by decide) ?_
                              refine j_icmp_ne (pc := 481) (tgt := 491) dL_law_481 (by decide) rfl (fun hc => ?_) (fun hc => ?_)
                              · refine j_iload (pc := 491) 8 dL_law_491 rfl ?_
                                refine j_iconst (pc := 493) (v := 1) dL_law_493 (by decide) ?_
                                refine j_aload_n (pc := 494) 16 dL_law_494 rfl rfl ?_
                                refine j_bipush (pc := 495) (v := 26) dL_law_495 (by decide) ?_
                                refine j_iload (pc := 497) 4 dL_law_497 rfl ?_
                                refine j_iadd (pc := 499) dL_law_499 ?_
                                refine j_callC (pc := 500) (own := RL) [sR p0, sI (26 + (v9 + 1))] [sI 1, sI v10] dL_law_500 lc_L_12 ls_L_cell rfl hX.s (m_L_cell z L xs p0 (26 + (v9 + 1)) q38g) ⟨⟨Nat.le_of_ble_eq_true rfl, Nat.le_of_ble_eq_true rfl⟩, Nat.le_of_ble_eq_true rfl⟩ rfl rfl (fun q39r q39g => ?_)
                                refine j_bipush (pc := 503) (v := 7) dL_law_503 (by decide) ?_
                                refine j_callS (pc := 505) (own := RL) [sI q39r, sI 7] [sI 1, sI v10] dL_law_505 lc_L_18 ls_L_low rfl (m_L_low z q39r 7 q39g) ⟨⟨Nat.le_of_ble_eq_true rfl, Nat.le_of_ble_eq_true rfl⟩, Nat.le_of_ble_eq_true rfl⟩ rfl rfl (fun q40r q40g => ?_)
                                refine j_iadd (pc := 508) dL_law_508 ?_
                                refine j_iadd (pc := 509) dL_law_509 ?_
                                refine j_istore (pc := 510) (lv' := [(10, sI (v10 + (1 + q40r))), (16, sI q38r), (15, sI q37r), (8, sI q32r), (14, sI q32r), (9, sI (v9 + 1)), (13, sI q29r), (12, sI x26), (11, sI q25_1), (7, sI p7), (6, sI p6), (5, sR p5), (4, sR p4), (3, sI p3), (2, sI p2), (1, sR p1), (0, sR p0)]) dL_law_510 (by decide) rfl ?_
                                refine j_goto (pc := 512) (tgt := 237) dL_law_512 (by decide) ?_
                                refine J.sub [0, 5, 3, 9, 10, 11, 12, 13, 14, 15, 16] rfl ?_
                                exact hr (v10 + (1 + q40r)) (v9 + 1) q32r q40g
                              · refine j_iload (pc := 484) 1 dL_law_484 rfl ?_
                                refine j_if_le (pc := 486) (tgt := 491) dL_law_486 (by decide) rfl (fun hc => ?_) (fun hc => ?_)
                                · refine j_iload (pc := 491) 8 dL_law_491 rfl ?_
                                  refine j_iconst (pc := 493) (v := 1) dL_law_493 (by decide) ?_
                                  refine j_aload_n (pc := 494) 16 dL_law_494 rfl rfl ?_
                                  refine j_bipush (pc := 495) (v := 26) dL_law_495 (by decide) ?_
                                  refine j_iload (pc := 497) 4 dL_law_497 rfl ?_
                                  refine j_iadd (pc := 499) dL_law_499 ?_
                                  refine j_callC (pc := 500) (own := RL) [sR p0, sI (26 + (v9 + 1))] [sI 1, sI v10] dL_law_500 lc_L_12 ls_L_cell rfl hX.s (m_L_cell z L xs p0 (26 + (v9 + 1)) q38g) ⟨⟨Nat.le_of_ble_eq_true rfl, Nat.le_of_ble_eq_true rfl⟩, Nat.le_of_ble_eq_true rfl⟩ rfl rfl (fun q41r q41g => ?_)
                                  refine j_bipush (pc := 503) (v := 7) dL_law_503 (by decide) ?_
                                  refine j_callS (pc := 505) (own := RL) [sI q41r, sI 7] [sI 1, sI v10] dL_law_505 lc_L_18 ls_L_low rfl (m_L_low z q41r 7 q41g) ⟨⟨Nat.le_of_ble_eq_true rfl, Nat.le_of_ble_eq_true rfl⟩, Nat.le_of_ble_eq_true rfl⟩ rfl rfl (fun q42r q42g => ?_)
                                  refine j_iadd (pc := 508) dL_law_508 ?_
                                  refine j_iadd (pc := 509) dL_law_509 ?_
                                  refine j_istore (pc := 510) (lv' := [(10, sI (v10 + (1 + q42r))), (16, sI q38r), (15, sI q37r), (8, sI q32r), (14, sI q32r), (9, sI (v9 + 1)), (13, sI q29r), (12, sI x26), (11, sI q25_1), (7, sI p7), (6, sI p6), (5, sR p5), (4, sR p4), (3, sI p3), (2, sI p2), (1, sR p1), (0, sR p0)]) dL_law_510 (by decide) rfl ?_
                                  refine j_goto (pc := 512) (tgt := 237) dL_law_512 (by decide) ?_
                                  refine J.sub [0, 5, 3, 9, 10, 11, 12, 13, 14, 15, 16] rfl ?_
                                  exact hr (v10 + (1 + q42r)) (v9 + 1) q32r q42g
                                · refine j_iconst (pc := 489) (v := 0) dL_law_489 (by decide) ?_
                                  exact j_lawret dL_law_490 hX rfl
                            · refine j_iload (pc := 473) 1 dL_law_473 rfl ?_
                              refine j_if_eq (pc := 475) (tgt := 489) dL_law_475 (by decide) rfl (fun hc => ?_) (fun hc => ?_)
                              · refine j_iconst (pc := 489) (v := 0) dL_law_489 (by decide) ?_
                                exact j_lawret dL_law_490 hX rfl
                              · refine j_iload (pc := 478) 0 dL_law_478 rfl ?_
                                refine j_iconst (pc := 480) (v := 1) dL_law_480 (by decide) ?_
                                refine j_icmp_ne (pc := 481) (tgt := 491) dL_law_481 (by decide) rfl (fun hc => ?_) (fun hc => ?_)
                                · refine j_iload (pc := 491) 8 dL_law_491 rfl ?_
                                  refine j_iconst (pc := 493) (v := 1) dL_law_493 (by decide) ?_
                                  refine j_aload_n (pc := 494) 16 dL_law_494 rfl rfl ?_
                                  refine j_bipush (pc := 495) (v := 26) dL_law_495 (by decide) ?_
                                  refine j_iload (pc := 497) 4 dL_law_497 rfl ?_
                                  refine j_iadd (pc := 499) dL_law_499 ?_
                                  refine j_callC (pc := 500) (own := RL) [sR p0, sI (26 + (v9 + 1))] [sI 1, sI v10] dL_law_500 lc_L_12 ls_L_cell rfl hX.s (m_L_cell z L xs p0 (26 + (v9 + 1)) q38g) ⟨⟨Nat.le_of_ble_eq_true rfl, Nat.le_of_ble_eq_true rfl⟩, Nat.le_of_ble_eq_true rfl⟩ rfl rfl (fun q43r q43g => ?_)
                                  refine j_bipush (pc := 503) (v := 7) dL_law_503 (by decide) ?_
                                  refine j_callS (pc := 505) (own := RL) [sI q43r, sI 7] [sI 1, sI v10] dL_law_505 lc_L_18 ls_L_low rfl (m_L_low z q43r 7 q43g) ⟨⟨Nat.le_of_ble_eq_true rfl, Nat.le_of_ble_eq_true rfl⟩, Nat.le_of_ble_eq_true rfl⟩ rfl rfl (fun q44r q44g => ?_)
                                  refine j_iadd (pc := 508) dL_law_508 ?_
                                  refine j_iadd (pc := 509) dL_law_509 ?_
                                  refine j_istore (pc := 510) (lv' := [(10, sI (v10 + (1 + q44r))), (16, sI q38r), (15, sI q37r), (8, sI q32r), (14, sI q32r), (9, sI (v9 + 1)), (13, sI q29r), (12, sI x26), (11, sI q25_1), (7, sI p7), (6, sI p6), (5, sR p5), (4, sR p4), (3, sI p3), (2, sI p2), (1, sR p1), (0, sR p0)]) dL_law_510 (by decide) rfl ?_
                                  refine j_goto (pc := 512) (tgt := 237) dL_law_512 (by decide) ?_
                                  refine J.sub [0, 5, 3, 9, 10, 11, 12, 13, 14, 15, 16] rfl ?_
                                  exact hr (v10 + (1 + q44r)) (v9 + 1) q32r q44g
                                · refine j_iload (pc := 484) 1 dL_law_484 rfl ?_
                                  refine j_if_le (pc := 486) (tgt := 491) dL_law_486 (by decide) rfl (fun hc => ?_) (fun hc => ?_)
                                  · refine j_iload (pc := 491) 8 dL_law_491 rfl ?_
                                    refine j_iconst (pc := 493) (v := 1) dL_law_493 (by decide) ?_
                                    refine j_aload_n (pc := 494) 16 dL_law_494 rfl rfl ?_
                                    refine j_bipush (pc := 495) (v := 26) dL_law_495 (by decide) ?_
                                    refine j_iload (pc := 497) 4 dL_law_497 rfl ?_
                                    refine j_iadd (pc := 499) dL_law_499 ?_
                                    refine j_callC (pc := 500) (own := RL) [sR p0, sI (26 + (v9 + 1))] [sI 1, sI v10] dL_law_500 lc_L_12 ls_L_cell rfl hX.s (m_L_cell z L xs p0 (26 + (v9 + 1)) q38g) ⟨⟨Nat.le_of_ble_eq_true rfl, Nat.le_of_ble_eq_true rfl⟩, Nat.le_of_ble_eq_true rfl⟩ rfl rfl (fun q45r q45g => ?_)
                                    refine j_bipush (pc := 503) (v := 7) dL_law_503 (by decide) ?_
                                    refine j_callS (pc := 505) (own := RL) [sI q45r, sI 7] [sI 1, sI v10] dL_law_505 lc_L_18 ls_L_low rfl (m_L_low z q45r 7 q45g) ⟨⟨Nat.le_of_ble_eq_true rfl, Nat.le_of_ble_eq_true rfl⟩, Nat.le_of_ble_eq_true rfl⟩ rfl rfl (fun q46r q46g => ?_)
                                    refine j_iadd (pc := 508) dL_law_508 ?_
                                    refine j_iadd (pc := 509) dL_law_509 ?_
                                    refine j_istore (pc := 510) (lv' := [(10, sI (v10 + (1 + q46r))), (16, sI q38r), (15, sI q37r), (8, sI q32r), (14, sI q32r), (9, sI (v9 + 1)), (13, sI q29r), (12, sI x26), (11, sI q25_1), (7, sI p7), (6, sI p6), (5, sR p5), (4, sR p4), (3, sI p3), (2, sI p2), (1, sR p1), (0, sR p0)]) dL_law_510 (by decide) rfl ?_
                                    refine j_goto (pc := 512) (tgt := 237) dL_law_512 (by decide) ?_
                                    refine J.sub [0, 5, 3, 9, 10, 11, 12, 13, 14, 15, 16] rfl ?_
                                    exact hr (v10 + (1 + q46r)) (v9 + 1) q32r q46g
                                  · refine j_iconst (pc := 489) (v := 0) dL_law_489 (by decide) ?_
                                    exact j_lawret dL_law_490 hX rfl
                      · refine j_iconst (pc := 435) (v := 0) dL_law_435 (by decide) ?_
                        exact j_lawret dL_law_436 hX rfl
          · refine j_iconst (pc := 361) (v := 0) dL_law_361 (by decide) ?_
            exact j_lawret dL_law_362 hX rfl
      · refine j_iconst (pc := 330) (v := 0) dL_law_330 (by decide) ?_
        exact j_lawret dL_law_331 hX rfl
    · refine j_goto (pc := 303) (tgt := 515) dL_law_303 (by decide) ?_
      refine j_iload (pc := 515) 3 dL_law_515 rfl ?_
      refine j_iload_n (pc := 517) 9 dL_law_517 rfl rfl ?_
      refine j_icmp_ne (pc := 518) (tgt := 559) dL_law_518 (by decide) rfl (fun hc => ?_) (fun hc => ?_)
      · refine j_iconst (pc := 559) (v := 0) dL_law_559 (by decide) ?_
        exact j_lawret dL_law_560 hX rfl
      · refine j_aload_n (pc := 521) 11 dL_law_521 rfl rfl ?_
        refine j_sipush (pc := 522) (v := 500) dL_law_522 (by decide) ?_
        refine j_callV (pc := 525) (own := RL) [sI 500] [] dL_law_525 lc_L_38 lv_X8_later rfl (m_X8_later z p1 500 q25_g) ⟨⟨Nat.le_of_ble_eq_true rfl, Nat.le_of_ble_eq_true rfl⟩, Nat.le_of_ble_eq_true rfl⟩ rfl rfl (fun q47r q47g => ?_)
        refine j_if_le (pc := 528) (tgt := 559) dL_law_528 (by decide) rfl (fun hc => ?_) (fun hc => ?_)
        · refine j_iconst (pc := 559) (v := 0) dL_law_559 (by decide) ?_
          exact j_lawret dL_law_560 hX rfl
        · refine j_aload_n (pc := 531) 11 dL_law_531 rfl rfl ?_
          refine j_iconst (pc := 532) (v := 0) dL_law_532 (by decide) ?_
          refine j_iconst (pc := 533) (v := 1) dL_law_533 (by decide) ?_
          refine j_callV (pc := 534) (own := RL) [sI 0, sI 1] [] dL_law_534 lc_L_45 lv_X8_quake rfl (m_X8_quake z p1 0 1 q47g) ⟨⟨Nat.le_of_ble_eq_true rfl, Nat.le_of_ble_eq_true rfl⟩, Nat.le_of_ble_eq_true rfl⟩ rfl rfl (fun q48r q48g => ?_)
          refine j_iload (pc := 537) 4 dL_law_537 rfl ?_
          refine j_icmp_ne (pc := 539) (tgt := 559) dL_law_539 (by decide) rfl (fun hc => ?_) (fun hc => ?_)
          · refine j_iconst (pc := 559) (v := 0) dL_law_559 (by decide) ?_
            exact j_lawret dL_law_560 hX rfl
          · refine j_aload_n (pc := 542) 11 dL_law_542 rfl rfl ?_
            refine j_iconst (pc := 543) (v := 0) dL_law_543 (by decide) ?_
            refine j_iload (pc := 544) 6 dL_law_544 rfl ?_
            refine j_iload (pc := 546) 5 dL_law_546 rfl ?_
            refine j_callV (pc := 548) (own := RL) [sI 0, sI p6, sI p7] [] dL_law_548 lc_L_48 lv_X8_holds rfl (m_X8_holds z p1 0 p6 p7 q48g) ⟨⟨Nat.le_of_ble_eq_true rfl, Nat.le_of_ble_eq_true rfl⟩, Nat.le_of_ble_eq_true rfl⟩ rfl rfl (fun q49r q49g => ?_)
            refine j_iconst (pc := 551) (v := 1) dL_law_551 (by decide) ?_
            refine j_icmp_ne (pc := 552) (tgt := 559) dL_law_552 (by decide) rfl (fun hc => ?_) (fun hc => ?_)
            · refine j_iconst (pc := 559) (v := 0) dL_law_559 (by decide) ?_
              exact j_lawret dL_law_560 hX rfl
            · refine j_iconst (pc := 555) (v := 1) dL_law_555 (by decide) ?_
              refine j_goto (pc := 556) (tgt := 560) dL_law_556 (by decide) ?_
              exact j_lawret dL_law_560 hX rfl
set_option maxRecDepth 20000 in
theorem l_L_law_237 {X : Xt Int32} {L : Nat} {xs : Nat → Int32} (hX : IsL X L xs) (z : Nat) (p7 : Int32) (p6 : Int32) (p5 : Option Nm) (p4 : Option Nm) (p3 : Int32) (p2 : Int32) (p1 : Option Nm) (p0 : Option Nm) : ∀ (n : Nat) (v10 : Int32) (v9 : Int32) (v8 : Int32) (g : Hp), J yL_law cL_law 17 (some .boolean) 10 380 X g 237 [(10, sI v10), (9, sI v9), (8, sI v8), (7, sI p7), (6, sI p6), (5, sR p5), (4, sR p4), (3, sI p3), (2, sI p2), (1, sR p1), (0, sR p0)] [] (f_L_law_237_L z L xs p7 p6 p5 p4 p3 p2 p1 p0 n v10 v9 v8 g)
  | 0, _, _, _, _ => J.none
  | n + 1, v10, v9, v8, g => b_L_law_237 hX z p7 p6 p5 p4 p3 p2 p1 p0 _ (fun v10 v9 v8 g => l_L_law_237 hX z p7 p6 p5 p4 p3 p2 p1 p0 n v10 v9 v8 g) v10 v9 v8 g
set_option maxRecDepth 20000 in
theorem b_L_law_117 {X : Xt Int32} {L : Nat} {xs : Nat → Int32} (hX : IsL X L xs) (z : Nat) (p7 : Int32) (p6 : Int32) (p5 : Option Nm) (p4 : Option Nm) (p3 : Int32) (p2 : Int32) (p1 : Option Nm) (p0 : Option Nm) (rec : Int32 → Hp → Option (Int32 × Hp)) (hr : ∀ (v8 : Int32) (g : Hp), J yL_law cL_law 17 (some .boolean) 10 380 X g 117 [(8, sI v8), (7, sI p7), (6, sI p6), (5, sR p5), (4, sR p4), (3, sI p3), (2, sI p2), (1, sR p1), (0, sR p0)] [] (rec v8 g)) (v8 : Int32) (g : Hp) : J yL_law cL_law 17 (some .boolean) 10 380 X g 117 [(8, sI v8), (7, sI p7), (6, sI p6), (5, sR p5), (4, sR p4), (3, sI p3), (2, sI p2), (1, sR p1), (0, sR p0)] [] (f_L_law_117_b z L xs p7 p6 p5 p4 p3 p2 p1 p0 rec v8 g) := by
  unfold f_L_law_117_b
  refine j_iload (pc := 117) 0 dL_law_117 rfl ?_
  refine j_iload_n (pc := 119) 5 dL_law_119 rfl rfl ?_
  refine j_icmp_ge (pc := 120) (tgt := 226) dL_law_120 (by decide) rfl (fun hc => ?_) (fun hc => ?_)
  · refine j_sipush (pc := 226) (v := 145) dL_law_226 (by decide) ?_
    refine j_istore (pc := 229) (lv' := [(8, sI 145), (7, sI p7), (6, sI p6), (5, sR p5), (4, sR p4), (3, sI p3), (2, sI p2), (1, sR p1), (0, sR p0)]) dL_law_229 (by decide) rfl ?_
    refine j_iconst (pc := 231) (v := 0) dL_law_231 (by decide) ?_
    refine j_istore (pc := 232) (lv' := [(9, sI 0), (8, sI 145), (7, sI p7), (6, sI p6), (5, sR p5), (4, sR p4), (3, sI p3), (2, sI p2), (1, sR p1), (0, sR p0)]) dL_law_232 (by decide) rfl ?_
    refine j_iconst (pc := 234) (v := 0) dL_law_234 (by decide) ?_
    refine j_istore (pc := 235) (lv' := [(10, sI 0), (9, sI 0), (8, sI 145), (7, sI p7), (6, sI p6), (5, sR p5), (4, sR p4), (3, sI p3), (2, sI p2), (1, sR p1), (0, sR p0)]) dL_law_235 (by decide) rfl ?_
    exact l_L_law_237 hX z p7 p6 p5 p4 p3 p2 p1 p0 z 0 0 145 g
  · refine j_aload (pc := 123) 4 dL_law_123 rfl ?_
    refine j_iload (pc := 125) 0 dL_law_125 rfl ?_
    refine j_aload_n (pc := 127) 8 dL_law_127 rfl rfl ?_
    refine j_bipush (pc := 128) (v := 6) dL_law_128 (by decide) ?_
    refine j_iload (pc := 130) 0 dL_law_130 rfl ?_
    refine j_iadd (pc := 132) dL_law_132 ?_
    refine j_callC (pc := 133) (own := RL) [sR p0, sI (6 + v8)] [sI v8, sR p4] dL_law_133 lc_L_12 ls_L_cell rfl hX.s (m_L_cell z L xs p0 (6 + v8) g) ⟨⟨Nat.le_of_ble_eq_true rfl, Nat.le_of_ble_eq_true rfl⟩, Nat.le_of_ble_eq_true rfl⟩ rfl rfl (fun q51r q51g => ?_)
    refine j_sipush (pc := 136) (v := 144) dL_law_136 (by decide) ?_
    refine j_callS (pc := 139) (own := RL) [sI q51r, sI 144] [sI v8, sR p4] dL_law_139 lc_L_18 ls_L_low rfl (m_L_low z q51r 144 q51g) ⟨⟨Nat.le_of_ble_eq_true rfl, Nat.le_of_ble_eq_true rfl⟩, Nat.le_of_ble_eq_true rfl⟩ rfl rfl (fun q52r q52g => ?_)
    refine j_astI (pc := 142) dL_law_142 rfl (fun g53 => ?_)
    refine j_aload_n (pc := 143) 7 dL_law_143 rfl rfl ?_
    refine j_aload (pc := 144) 4 dL_law_144 rfl ?_
    refine j_iload (pc := 146) 0 dL_law_146 rfl ?_
    refine j_aldI (pc := 148) dL_law_148 rfl (fun x54 => ?_)
    refine j_callV (pc := 149) (own := RL) [sI x54] [] dL_law_149 lc_L_29 lv_X8_station rfl (m_X8_station z p1 x54 g53) ⟨⟨Nat.le_of_ble_eq_true rfl, Nat.le_of_ble_eq_true rfl⟩, Nat.le_of_ble_eq_true rfl⟩ rfl rfl (fun q55r q55g => ?_)
    refine j_iload (pc := 152) 0 dL_law_152 rfl ?_
    refine j_icmp_eq (pc := 154) (tgt := 159) dL_law_154 (by decide) rfl (fun hc => ?_) (fun hc => ?_)
    · refine j_aload (pc := 159) 3 dL_law_159 rfl ?_
      refine j_iload (pc := 161) 0 dL_law_161 rfl ?_
      refine j_iload (pc := 163) 1 dL_law_163 rfl ?_
      refine j_aload_n (pc := 165) 7 dL_law_165 rfl rfl ?_
      refine j_iload (pc := 166) 2 dL_law_166 rfl ?_
      refine j_aload (pc := 168) 4 dL_law_168 rfl ?_
      refine j_iload (pc := 170) 0 dL_law_170 rfl ?_
      refine j_aldI (pc := 172) dL_law_172 rfl (fun x56 => ?_)
      refine j_callV (pc := 173) (own := RL) [sI p6, sI x56] [sI p7, sI v8, sR p5] dL_law_173 lc_L_32 lv_X8_travel rfl (m_X8_travel z p1 p6 x56 q55g) ⟨⟨Nat.le_of_ble_eq_true rfl, Nat.le_of_ble_eq_true rfl⟩, Nat.le_of_ble_eq_true rfl⟩ rfl rfl (fun q57r q57g => ?_)
      refine j_iadd (pc := 176) dL_law_176 ?_
      refine j_aload_n (pc := 177) 8 dL_law_177 rfl rfl ?_
      refine j_bipush (pc := 178) (v := 16) dL_law_178 (by decide) ?_
      refine j_iload (pc := 180) 0 dL_law_180 rfl ?_
      refine j_iadd (pc := 182) dL_law_182 ?_
      refine j_callC (pc := 183) (own := RL) [sR p0, sI (16 + v8)] [sI (p7 + q57r), sI v8, sR p5] dL_law_183 lc_L_12 ls_L_cell rfl hX.s (m_L_cell z L xs p0 (16 + v8) q57g) ⟨⟨Nat.le_of_ble_eq_true rfl, Nat.le_of_ble_eq_true rfl⟩, Nat.le_of_ble_eq_true rfl⟩ rfl rfl (fun q58r q58g => ?_)
      refine j_iconst (pc := 186) (v := 2) dL_law_186 (by decide) ?_
      refine j_iload_n (pc := 187) 6 dL_law_187 rfl rfl ?_
      refine j_imul (pc := 188) dL_law_188 ?_
      refine j_iconst (pc := 189) (v := 1) dL_law_189 (by decide) ?_
      refine j_iadd (pc := 190) dL_law_190 ?_
      refine j_callS (pc := 191) (own := RL) [sI q58r, sI ((2 * p2) + 1)] [sI (p7 + q57r), sI v8, sR p5] dL_law_191 lc_L_18 ls_L_low rfl (m_L_low z q58r ((2 * p2) + 1) q58g) ⟨⟨Nat.le_of_ble_eq_true rfl, Nat.le_of_ble_eq_true rfl⟩, Nat.le_of_ble_eq_true rfl⟩ rfl rfl (fun q59r q59g => ?_)
      refine j_iadd (pc := 194) dL_law_194 ?_
      refine j_iload_n (pc := 195) 6 dL_law_195 rfl rfl ?_
      refine j_isub (pc := 196) dL_law_196 ?_
      refine j_astI (pc := 197) dL_law_197 rfl (fun g60 => ?_)
      refine j_aload (pc := 198) 3 dL_law_198 rfl ?_
      refine j_iload (pc := 200) 0 dL_law_200 rfl ?_
      refine j_aload (pc := 202) 3 dL_law_202 rfl ?_
      refine j_iload (pc := 204) 0 dL_law_204 rfl ?_
      refine j_aldI (pc := 206) dL_law_206 rfl (fun x61 => ?_)
      refine j_if_ge (pc := 207) (tgt := 214) dL_law_207 (by decide) rfl (fun hc => ?_) (fun hc => ?_)
      · refine j_aload (pc := 214) 3 dL_law_214 rfl ?_
        refine j_iload (pc := 216) 0 dL_law_216 rfl ?_
        refine j_aldI (pc := 218) dL_law_218 rfl (fun x62 => ?_)
        refine j_astI (pc := 219) dL_law_219 rfl (fun g63 => ?_)
        refine j_iinc (pc := 220) (v := (v8 + 1)) (lv' := [(8, sI (v8 + 1)), (7, sI p7), (6, sI p6), (5, sR p5), (4, sR p4), (3, sI p3), (2, sI p2), (1, sR p1), (0, sR p0)]) 0 dL_law_220 rfl rfl (by decide) rfl ?_
        refine j_goto (pc := 223) (tgt := 117) dL_law_223 (by decide) ?_
        exact hr (v8 + 1) g63
      · refine j_iconst (pc := 210) (v := 0) dL_law_210 (by decide) ?_
        refine j_goto (pc := 211) (tgt := 219) dL_law_211 (by decide) ?_
        refine j_astI (pc := 219) dL_law_219 rfl (fun g64 => ?_)
        refine j_iinc (pc := 220) (v := (v8 + 1)) (lv' := [(8, sI (v8 + 1)), (7, sI p7), (6, sI p6), (5, sR p5), (4, sR p4), (3, sI p3), (2, sI p2), (1, sR p1), (0, sR p0)]) 0 dL_law_220 rfl rfl (by decide) rfl ?_
        refine j_goto (pc := 223) (tgt := 117) dL_law_223 (by decide) ?_
        exact hr (v8 + 1) g64
    · refine j_iconst (pc := 157) (v := 0) dL_law_157 (by decide) ?_
      exact j_lawret dL_law_158 hX rfl
set_option maxRecDepth 20000 in
theorem l_L_law_117 {X : Xt Int32} {L : Nat} {xs : Nat → Int32} (hX : IsL X L xs) (z : Nat) (p7 : Int32) (p6 : Int32) (p5 : Option Nm) (p4 : Option Nm) (p3 : Int32) (p2 : Int32) (p1 : Option Nm) (p0 : Option Nm) : ∀ (n : Nat) (v8 : Int32) (g : Hp), J yL_law cL_law 17 (some .boolean) 10 380 X g 117 [(8, sI v8), (7, sI p7), (6, sI p6), (5, sR p5), (4, sR p4), (3, sI p3), (2, sI p2), (1, sR p1), (0, sR p0)] [] (f_L_law_117_L z L xs p7 p6 p5 p4 p3 p2 p1 p0 n v8 g)
  | 0, _, _ => J.none
  | n + 1, v8, g => b_L_law_117 hX z p7 p6 p5 p4 p3 p2 p1 p0 _ (fun v8 g => l_L_law_117 hX z p7 p6 p5 p4 p3 p2 p1 p0 n v8 g) v8 g
set_option maxRecDepth 20000 in
theorem m_L_law {X : Xt Int32} {L : Nat} {xs : Nat → Int32} (hX : IsL X L xs) (z : Nat) (a0 : Option Nm) (g : Hp) : J yL_law cL_law 17 (some .boolean) 10 380 X g 0 [(0, sR a0)] [] (f_L_law z L xs a0 g) := by
  unfold f_L_law
  refine j_mkO (pc := 0) (own := RL) dL_law_0 ln_L_9 rfl rfl (fun q1r q1g => ?_)
  refine j_dup (pc := 3) dL_law_3 rfl ?_
  refine j_callI (pc := 4) (own := RL) [] [sR q1r] dL_law_4 lc_L_11 li_X8_init rfl (m_X8_init z q1r q1g) ⟨⟨Nat.le_of_ble_eq_true rfl, Nat.le_of_ble_eq_true rfl⟩, Nat.le_of_ble_eq_true rfl⟩ rfl rfl (fun q2r q2g => ?_)
  refine j_astore_n (pc := 7) (lv' := [(1, sR q1r), (0, sR a0)]) dL_law_7 rfl (by decide) rfl ?_
  refine j_aload_n (pc := 8) 1 dL_law_8 rfl rfl ?_
  refine j_iconst (pc := 9) (v := 0) dL_law_9 (by decide) ?_
  refine j_callC (pc := 10) (own := RL) [sR a0, sI 0] [] dL_law_10 lc_L_12 ls_L_cell rfl hX.s (m_L_cell z L xs a0 0 q2g) ⟨⟨Nat.le_of_ble_eq_true rfl, Nat.le_of_ble_eq_true rfl⟩, Nat.le_of_ble_eq_true rfl⟩ rfl rfl (fun q3r q3g => ?_)
  refine j_bipush (pc := 13) (v := 8) dL_law_13 (by decide) ?_
  refine j_callS (pc := 15) (own := RL) [sI q3r, sI 8] [] dL_law_15 lc_L_18 ls_L_low rfl (m_L_low z q3r 8 q3g) ⟨⟨Nat.le_of_ble_eq_true rfl, Nat.le_of_ble_eq_true rfl⟩, Nat.le_of_ble_eq_true rfl⟩ rfl rfl (fun q4r q4g => ?_)
  refine j_istore_n (pc := 18) (lv' := [(2, sI q4r), (1, sR q1r), (0, sR a0)]) dL_law_18 rfl (by decide) rfl ?_
  refine j_iconst (pc := 19) (v := 2) dL_law_19 (by decide) ?_
  refine j_aload_n (pc := 20) 2 dL_law_20 rfl rfl ?_
  refine j_iconst (pc := 21) (v := 1) dL_law_21 (by decide) ?_
  refine j_callC (pc := 22) (own := RL) [sR a0, sI 1] [sI 2] dL_law_22 lc_L_12 ls_L_cell rfl hX.s (m_L_cell z L xs a0 1 q4g) ⟨⟨Nat.le_of_ble_eq_true rfl, Nat.le_of_ble_eq_true rfl⟩, Nat.le_of_ble_eq_true rfl⟩ rfl rfl (fun q5r q5g => ?_)
  refine j_bipush (pc := 25) (v := 7) dL_law_25 (by decide) ?_
  refine j_callS (pc := 27) (own := RL) [sI q5r, sI 7] [sI 2] dL_law_27 lc_L_18 ls_L_low rfl (m_L_low z q5r 7 q5g) ⟨⟨Nat.le_of_ble_eq_true rfl, Nat.le_of_ble_eq_true rfl⟩, Nat.le_of_ble_eq_true rfl⟩ rfl rfl (fun q6r q6g => ?_)
  refine j_iadd (pc := 30) dL_law_30 ?_
  refine j_istore_n (pc := 31) (lv' := [(3, sI (2 + q6r)), (2, sI q4r), (1, sR q1r), (0, sR a0)]) dL_law_31 rfl (by decide) rfl ?_
  refine j_aload_n (pc := 32) 2 dL_law_32 rfl rfl ?_
  refine j_iconst (pc := 33) (v := 1) dL_law_33 (by decide) ?_
  refine j_aload_n (pc := 34) 3 dL_law_34 rfl rfl ?_
  refine j_iconst (pc := 35) (v := 2) dL_law_35 (by decide) ?_
  refine j_callC (pc := 36) (own := RL) [sR a0, sI 2] [sI 1, sR q1r] dL_law_36 lc_L_12 ls_L_cell rfl hX.s (m_L_cell z L xs a0 2 q6g) ⟨⟨Nat.le_of_ble_eq_true rfl, Nat.le_of_ble_eq_true rfl⟩, Nat.le_of_ble_eq_true rfl⟩ rfl rfl (fun q7r q7g => ?_)
  refine j_sipush (pc := 39) (v := 300) dL_law_39 (by decide) ?_
  refine j_callS (pc := 42) (own := RL) [sI q7r, sI 300] [sI 1, sR q1r] dL_law_42 lc_L_18 ls_L_low rfl (m_L_low z q7r 300 q7g) ⟨⟨Nat.le_of_ble_eq_true rfl, Nat.le_of_ble_eq_true rfl⟩, Nat.le_of_ble_eq_true rfl⟩ rfl rfl (fun q8r q8g => ?_)
  refine j_iadd (pc := 45) dL_law_45 ?_
  refine j_iload_n (pc := 46) 1 dL_law_46 rfl rfl ?_
  refine j_callV (pc := 47) (own := RL) [sI (1 + q8r), sI q4r] [] dL_law_47 lc_L_22 lv_X8_rule rfl (m_X8_rule z q1r (1 + q8r) q4r q8g) ⟨⟨Nat.le_of_ble_eq_true rfl, Nat.le_of_ble_eq_true rfl⟩, Nat.le_of_ble_eq_true rfl⟩ rfl rfl (fun q9r q9g => ?_)
  refine j_iconst (pc := 50) (v := 1) dL_law_50 (by decide) ?_
  refine j_icmp_ne (pc := 51) (tgt := 72) dL_law_51 (by decide) rfl (fun hc => ?_) (fun hc => ?_)
  · refine j_iconst (pc := 72) (v := 0) dL_law_72 (by decide) ?_
    exact j_lawret dL_law_73 hX rfl
  · refine j_aload_n (pc := 54) 2 dL_law_54 rfl rfl ?_
    refine j_aload_n (pc := 55) 3 dL_law_55 rfl rfl ?_
    refine j_iconst (pc := 56) (v := 3) dL_law_56 (by decide) ?_
    refine j_callC (pc := 57) (own := RL) [sR a0, sI 3] [sR q1r] dL_law_57 lc_L_12 ls_L_cell rfl hX.s (m_L_cell z L xs a0 3 q9g) ⟨⟨Nat.le_of_ble_eq_true rfl, Nat.le_of_ble_eq_true rfl⟩, Nat.le_of_ble_eq_true rfl⟩ rfl rfl (fun q10r q10g => ?_)
    refine j_sipush (pc := 60) (v := 144) dL_law_60 (by decide) ?_
    refine j_callS (pc := 63) (own := RL) [sI q10r, sI 144] [sR q1r] dL_law_63 lc_L_18 ls_L_low rfl (m_L_low z q10r 144 q10g) ⟨⟨Nat.le_of_ble_eq_true rfl, Nat.le_of_ble_eq_true rfl⟩, Nat.le_of_ble_eq_true rfl⟩ rfl rfl (fun q11r q11g => ?_)
    refine j_callV (pc := 66) (own := RL) [sI q11r] [] dL_law_66 lc_L_25 lv_X8_town rfl (m_X8_town z q1r q11r q11g) ⟨⟨Nat.le_of_ble_eq_true rfl, Nat.le_of_ble_eq_true rfl⟩, Nat.le_of_ble_eq_true rfl⟩ rfl rfl (fun q12r q12g => ?_)
    refine j_if_eq (pc := 69) (tgt := 74) dL_law_69 (by decide) rfl (fun hc => ?_) (fun hc => ?_)
    · refine j_bipush (pc := 74) (v := 9) dL_law_74 (by decide) ?_
      refine j_mkI (pc := 76) dL_law_76 lA_int rfl (fun q13r q13g => ?_)
      refine j_astore (pc := 78) (lv' := [(4, sR q13r), (3, sI (2 + q6r)), (2, sI q4r), (1, sR q1r), (0, sR a0)]) dL_law_78 (by decide) rfl ?_
      refine j_bipush (pc := 80) (v := 9) dL_law_80 (by decide) ?_
      refine j_mkI (pc := 82) dL_law_82 lA_int rfl (fun q14r q14g => ?_)
      refine j_astore (pc := 84) (lv' := [(5, sR q14r), (4, sR q13r), (3, sI (2 + q6r)), (2, sI q4r), (1, sR q1r), (0, sR a0)]) dL_law_84 (by decide) rfl ?_
      refine j_aload_n (pc := 86) 5 dL_law_86 rfl rfl ?_
      refine j_iconst (pc := 87) (v := 4) dL_law_87 (by decide) ?_
      refine j_callC (pc := 88) (own := RL) [sR a0, sI 4] [] dL_law_88 lc_L_12 ls_L_cell rfl hX.s (m_L_cell z L xs a0 4 q14g) ⟨⟨Nat.le_of_ble_eq_true rfl, Nat.le_of_ble_eq_true rfl⟩, Nat.le_of_ble_eq_true rfl⟩ rfl rfl (fun q15r q15g => ?_)
      refine j_sipush (pc := 91) (v := 144) dL_law_91 (by decide) ?_
      refine j_callS (pc := 94) (own := RL) [sI q15r, sI 144] [] dL_law_94 lc_L_18 ls_L_low rfl (m_L_low z q15r 144 q15g) ⟨⟨Nat.le_of_ble_eq_true rfl, Nat.le_of_ble_eq_true rfl⟩, Nat.le_of_ble_eq_true rfl⟩ rfl rfl (fun q16r q16g => ?_)
      refine j_istore (pc := 97) (lv' := [(6, sI q16r), (5, sR q14r), (4, sR q13r), (3, sI (2 + q6r)), (2, sI q4r), (1, sR q1r), (0, sR a0)]) dL_law_97 (by decide) rfl ?_
      refine j_bipush (pc := 99) (v := 10) dL_law_99 (by decide) ?_
      refine j_aload_n (pc := 101) 6 dL_law_101 rfl rfl ?_
      refine j_iconst (pc := 102) (v := 5) dL_law_102 (by decide) ?_
      refine j_callC (pc := 103) (own := RL) [sR a0, sI 5] [sI 10] dL_law_103 lc_L_12 ls_L_cell rfl hX.s (m_L_cell z L xs a0 5 q16g) ⟨⟨Nat.le_of_ble_eq_true rfl, Nat.le_of_ble_eq_true rfl⟩, Nat.le_of_ble_eq_true rfl⟩ rfl rfl (fun q17r q17g => ?_)
      refine j_bipush (pc := 106) (v := 50) dL_law_106 (by decide) ?_
      refine j_callS (pc := 108) (own := RL) [sI q17r, sI 50] [sI 10] dL_law_108 lc_L_18 ls_L_low rfl (m_L_low z q17r 50 q17g) ⟨⟨Nat.le_of_ble_eq_true rfl, Nat.le_of_ble_eq_true rfl⟩, Nat.le_of_ble_eq_true rfl⟩ rfl rfl (fun q18r q18g => ?_)
      refine j_iadd (pc := 111) dL_law_111 ?_
      refine j_istore (pc := 112) (lv' := [(7, sI (10 + q18r)), (6, sI q16r), (5, sR q14r), (4, sR q13r), (3, sI (2 + q6r)), (2, sI q4r), (1, sR q1r), (0, sR a0)]) dL_law_112 (by decide) rfl ?_
      refine j_iconst (pc := 114) (v := 0) dL_law_114 (by decide) ?_
      refine j_istore (pc := 115) (lv' := [(8, sI 0), (7, sI (10 + q18r)), (6, sI q16r), (5, sR q14r), (4, sR q13r), (3, sI (2 + q6r)), (2, sI q4r), (1, sR q1r), (0, sR a0)]) dL_law_115 (by decide) rfl ?_
      exact l_L_law_117 hX z (10 + q18r) q16r q14r q13r (2 + q6r) q4r q1r a0 z 0 q18g
    · refine j_iconst (pc := 72) (v := 0) dL_law_72 (by decide) ?_
      exact j_lawret dL_law_73 hX rfl
