section DRI
variable {z : Nat}
theorem IN.w {g : Hp} {U V : VV} (h : IN g V) : IN (wM g U) V := ⟨trivial, h.s, h.v, h.r, fun n k v hz hk => by rw [wM_C (cI_cls hk)]; exact h.2.2.2.2.1 n k v hz hk, h.h.w, h.c, h.vf⟩
theorem snd24 {V : VV} {a b c : Int32} : sndV V a b c 10 24 = nI (nms V + 1) := by unfold sndV; exact vs_eq
theorem op_drill (a b : Int32) : OP (fun g => f_X8_drill z (some (9, 0)) a b g) (fun g => f_X9_drill z (some (10, 0)) a b g) := by
  intro g V h hM0 hms
  have e24 := h.v.ms
  have f12 : gI g (9, 0) 12 = nI (nms V) := h.f12.trans e24
  by_cases h1 : inB a 0 (V 10 9 - 1) = 0
  · refine op_same h hM0 (r := -1) ?_ ?_
    · simp only [f_X8_drill, ick_X, isTown8 h, Option.bind_some, h1, if_true]
    · simp only [f_X9_drill, ick_M, isTown9, Option.bind_some, h1, if_true]
  by_cases h2 : inB b 1 4 = 0
  · refine op_same h hM0 (r := -1) ?_ ?_
    · simp only [f_X8_drill, ick_X, isTown8 h, Option.bind_some, if_neg h1, in8, h2, if_true]
    · simp only [f_X9_drill, ick_M, isTown9, Option.bind_some, if_neg h1, in9, h2, if_true]
  have hiff : nI (nms V) < (400 : Int32) ↔ nms V < 400 := by
    rw [show (400 : Int32) = nI 400 from rfl]; exact nI_ltI (by omega) (by omega)
  by_cases hn : nms V < 400
  · obtain ⟨g2, k1, k2, k3, -⟩ := send8 (z := z) h (by omega) a (-9) b
    have hm : wM g2 V = g2 := fr_mm k3 (by decide) hM0
    refine ⟨nI (nms V + 1), g2, sndV V a (-9) b, ?_, ?_, k2.w, ?_⟩
    · simp only [f_X8_drill, ick_X, isTown8 h, Option.bind_some, if_neg h1, in8, if_neg h2, gi_C, f12, if_pos (hiff.mpr hn), k1, k2.f12, snd24]
    · have e : f_X9_drill z (some (10, 0)) a b (wM g2 V) = some (nI (nms V + 1), wM g2 (sndV V a (-9) b)) := by
        simp only [f_X9_drill, ick_M, isTown9, Option.bind_some, if_neg h1, in9, if_neg h2, gi_M, e24, if_pos (hiff.mpr hn), say9 k2.s e24 (show nms V ≤ 2000000 by omega), snd24]
      rw [hm] at e; exact e
    · rw [snd_n (by omega)]; omega
  · refine op_same h hM0 (r := -2) ?_ ?_
    · simp only [f_X8_drill, ick_X, isTown8 h, Option.bind_some, if_neg h1, in8, if_neg h2, gi_C, f12, if_neg (fun w => hn (hiff.mp w))]
    · simp only [f_X9_drill, ick_M, isTown9, Option.bind_some, if_neg h1, in9, if_neg h2, gi_M, e24, if_neg (fun w => hn (hiff.mp w))]
end DRI
