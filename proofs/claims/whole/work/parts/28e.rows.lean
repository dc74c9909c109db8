section ROX
variable {z : Nat}
theorem has8 {g : Hp} {i m n : Nat} (hm : m ≤ 30) (e : gI g (5, i) 1 = nI m) {a : Int32} (hn : n < 2147483648) : f_X4_has z (some (5, i)) a (nI n) g = some ((if a < 0 then 0 else if a.toNatClampNeg + n ≤ m then 1 else 0), g) := by
  unfold f_X4_has
  by_cases h1 : a < 0
  · rw [if_pos h1, if_pos h1]; exact rtZ_0
  · rw [if_neg h1, if_neg h1]
    obtain ⟨k, hk, rfl⟩ := nI_of h1
    have e2 : (nI k).toNatClampNeg = k := nI_cl (by omega)
    simp only [gI_X, Option.bind_some, e, e2]
    rw [nI_iI m, nI_iI k, nI_iI n, iI_sub]
    by_cases h2 : k + n ≤ m
    · rw [if_neg (fun w => by have := (iI_lt (by omega) (by omega) (by omega) (by omega)).mp w; omega), if_pos h2]; exact rtZ_1
    · rw [if_pos ((iI_lt (by omega) (by omega) (by omega) (by omega)).mpr (by omega)), if_neg h2]; exact rtZ_0
theorem al43 {g1 : Hp} {V : VV} (hs : SM g1) {i : Nat} (hi : i < 10) : aldI (some (43, 0)) (nI i) (wM g1 V) = some (V 43 i) := by
  rw [al_M hs (by decide) (by decide) (vp_n (N := 10) hi (by decide)), nI_cl (show i < 2147483648 by omega)]
theorem al44 {g1 : Hp} {V : VV} (hs : SM g1) {i : Nat} (hi : i < 300) : aldI (some (44, 0)) (nI i) (wM g1 V) = some (V 44 i) := by
  rw [al_M hs (by decide) (by decide) (vp_n (N := 300) hi (by decide)), nI_cl (show i < 2147483648 by omega)]
theorem n9lt : ¬ (0 : Int32) ≤ -9 := by decide
theorem nIge {m : Nat} (h : m < 1000000) : (0 : Int32) ≤ nI m := by
  rw [show (0 : Int32) = nI 0 from rfl, nI_leI (by omega) (by omega)]; omega
/-- the readings changed : rows 25 against 44 -/
theorem VI.c44 {V V2 : VV} {E : List Nat} (hv : VI V) (hev : Ev [44, 46] E V V2) (hE : dj (24 :: viE) E = true) : VI V2 := by
  have h24 : V2 10 24 = V 10 24 := hev.2 24 (dj_x hE (by decide))
  refine hv.cg hev (by decide) ?_ (by rw [h24, nms_e h24]; exact hv.ms)
  rw [dj] at hE ⊢
  simp only [List.all_cons, Bool.and_eq_true] at hE
  exact hE.2
theorem op_lay (a b c : Int32) : OP (fun g => f_X8_lay z (some (9, 0)) a b c g) (fun g => f_X9_lay z (some (10, 0)) a b c g) := by
  intro g V h hM0 _
  by_cases h1 : inB a 0 (V 10 6 - 1) = 0
  · refine op_same h hM0 (r := -1) ?_ ?_
    · simp only [f_X8_lay, ick_X, isStation8 h, Option.bind_some, h1, if_true]
    · simp only [f_X9_lay, ick_M, isStation9, Option.bind_some, h1, if_true]
  obtain ⟨i, hi, rfl⟩ := stOf h h1
  have hi10 : i < 10 := by have := h.v.hv.ns.2; omega
  by_cases h2 : inB c (-100000) 100000 = 0
  · refine op_same h hM0 (r := -1) ?_ ?_
    · simp only [f_X8_lay, ick_X, isStation8 h, Option.bind_some, if_neg h1, in8, h2, if_true]
    · simp only [f_X9_lay, ick_M, isStation9, Option.bind_some, if_neg h1, in9, h2, if_true]
  rcases szS h hi with ⟨e, e1⟩ | ⟨m, hm, e, en, e1⟩
  · refine of_found (z := z) (f := 1) h hM0 (by decide) ?_ ?_
    · simp only [f_X8_lay, ick_X, isStation8 h, Option.bind_some, if_neg h1, in8, if_neg h2, rowOf8 h hi, miss8 h hi, if_pos e]
      rw [if_neg (by decide), bindeta]; rfl
    · intro g1 _ hs
      simp only [f_X9_lay, ick_M, isStation9, Option.bind_some, if_neg h1, in9, if_neg h2, gr_M hs, mRef, al43 hs hi10, e]
      rw [if_neg n9lt, bindeta]; rfl
  · by_cases h3 : inB b 0 (nI m - 1) = 0
    · have hh : (if b < 0 then (0 : Int32) else if b.toNatClampNeg + 1 ≤ m then 1 else 0) = 0 := by
        by_cases h4 : b < 0
        · rw [if_pos h4]
        · obtain ⟨k, hk, rfl⟩ := nI_of h4
          rw [if_neg h4, nI_cl (by omega)]
          by_cases h5 : k + 1 ≤ m
          · rw [inB_in (by omega) (by omega)] at h3; exact absurd h3 (by decide)
          · rw [if_neg h5]
      refine of_found (z := z) (f := 2) h hM0 (by decide) ?_ ?_
      · simp only [f_X8_lay, ick_X, isStation8 h, Option.bind_some, if_neg h1, in8, if_neg h2, rowOf8 h hi, miss8 h hi, if_neg en]
        rw [if_pos trivial, show (1 : Int32) = nI 1 from rfl, has8 hm e1 (by decide)]
        simp only [Option.bind_some]
        rw [show nI 1 = (1 : Int32) from rfl, hh, if_pos rfl, bindeta]; rfl
      · intro g1 _ hs
        simp only [f_X9_lay, ick_M, isStation9, Option.bind_some, if_neg h1, in9, if_neg h2, gr_M hs, mRef, al43 hs hi10, e, h3]
        rw [if_pos (nIge (by omega)), if_pos trivial, bindeta]; rfl
    · obtain ⟨k, hk, rfl⟩ := inB_nI (by omega) h3
      have hb0 : ¬ nI k < 0 := by rw [show (0 : Int32) = nI 0 from rfl, nI_ltI (by omega) (by omega)]; omega
      have hh : (if nI k < 0 then (0 : Int32) else if (nI k).toNatClampNeg + 1 ≤ m then 1 else 0) = 1 := by
        rw [if_neg hb0, nI_cl (by omega), if_pos (by omega)]
      have hev : Ev [44] [2] V (vs (vs V 10 2 (V 44 (30 * i + k))) 44 (30 * i + k) c) := ((Ev.rf _ _ V).t (by decide)).s (by decide) (by decide)
      have hch : Ch [9, 25] g (setI (setI g (9, 0) 13 (V 44 (30 * i + k))) (25, i) k c) := (Ch.set (by decide)).tr (Ch.set (show 25 ∈ [9, 25] by decide))
      refine op_upd (hm := hM0) (hvf := h.vf.st hev (by decide) (by decide) (fun s hs _ => ⟨rfl, rfl, fun k2 hk2 => by rw [vs_nk (by omega), vs_ne (by decide)]⟩)) (C := [9, 25]) (D := [44]) (E := [2]) (r := 1) h ?_ hch hev (by decide) ?_ (by decide) (by decide) ?_ ?_ ?_
      · have k30 : k < 30 := by omega
        have a1 : aldI (some (25, i)) (nI k) g = some (V 44 (30 * i + k)) := by rw [ald_X (gN25 h hi) (by decide) (by decide) k30 (by decide), h.rd hi k30]
        have a2 : ∀ w, astI (some (25, i)) (nI k) c (setI g (9, 0) 13 w) = some (setI (setI g (9, 0) 13 w) (25, i) k c) := fun w => ast_X (gN25 h hi) (by decide) (by decide) k30 (by decide)
        have a3 : ∀ w, getR (some (5, i)) 5 0 (setI g (9, 0) 13 w) = some (some (25, i)) := fun w => by rw [gR_X]; exact congrArg some (gR50 h hi)
        simp only [f_X8_lay, ick_X, isStation8 h, Option.bind_some, if_neg h1, in8, if_neg h2, rowOf8 h hi, miss8 h hi, if_neg en]
        rw [if_pos trivial, show (1 : Int32) = nI 1 from rfl, has8 hm e1 (by decide)]
        simp only [Option.bind_some]
        rw [show nI 1 = (1 : Int32) from rfl, hh, if_neg (by decide)]
        simp only [gR_X, gR50 h hi, Option.bind_some, a1, pu_C]
        rw [show gR (setI g (9, 0) 13 (V 44 (30 * i + k))) (5, i) 0 = some (25, i) from gR50 h hi, a2]
        rfl
      · intro hs
        simp only [f_X9_lay, ick_M, isStation9, Option.bind_some, if_neg h1, in9, if_neg h2, gr_M hs, mRef, al43 hs hi10, e]
        rw [if_pos (nIge (by omega)), if_neg h3, show (30 : Int32) = nI 30 from rfl, pk_mul, nI_add, al44 hs (by omega)]
        simp only [Option.bind_some, pu_M, gr_M hs, mRef]
        rw [as_M hs (by decide) (by decide) (vp_n (N := 300) (by omega) (by decide)), nI_cl (show 30 * i + k < 2147483648 by omega)]
        rfl
      · exact h.v.c44 (hev.sub (by decide) (fun _ h => h)) (by decide)
      · intro n j v hz hn hk2
        obtain ⟨c2, i2⟩ := n
        simp only [List.mem_cons, List.not_mem_nil, or_false] at hn
        rcases hn with rfl | rfl
        · have hj : i2 = 0 := hz (by simp)
          subst hj
          rw [gI_set, if_neg (by simp), gI_set]
          by_cases e5 : j = 13
          · subst e5
            simp [cI, vs] at hk2
            rw [if_pos ⟨rfl, rfl⟩]; exact hk2
          · rw [if_neg (by simp [e5])]
            refine h.i (v := v) ?_
            rw [← hk2]
            simp [cI, vs, e5]
        · simp only [cI, nst_e (hev.2 6 (by decide))] at hk2
          simp at hk2
          obtain ⟨⟨hj, hj30⟩, hk2⟩ := hk2
          rw [gI_set]
          by_cases e5 : i2 = i ∧ j = k
          · obtain ⟨rfl, rfl⟩ := e5
            rw [vs_eq] at hk2
            rw [if_pos ⟨rfl, rfl⟩]; exact hk2
          · rw [if_neg (by simpa using e5), gI_set, if_neg (by simp), h.rd hj hj30, ← hk2, vs_nk (by
              intro w; exact e5 (by omega)), vs_ne (by decide)]
      · exact h.h.cg (hev.h (by decide) (by decide)) (fun k => hch.i (by decide)) (fun k => hch.i (by decide)) (fun k => hch.i (by decide))
theorem op_tear (a : Int32) : OP (fun g => f_X8_tear z (some (9, 0)) a g) (fun g => f_X9_tear z (some (10, 0)) a g) := by
  intro g V h hM0 _
  by_cases h1 : inB a 0 (V 10 6 - 1) = 0
  · refine op_same h hM0 (r := -1) ?_ ?_
    · simp only [f_X8_tear, ick_X, isStation8 h, Option.bind_some, h1, if_true]
    · simp only [f_X9_tear, ick_M, isStation9, Option.bind_some, h1, if_true]
  obtain ⟨i, hi, rfl⟩ := stOf h h1
  have hi10 : i < 10 := by have := h.v.hv.ns.2; omega
  rcases szS h hi with ⟨e, e1⟩ | ⟨m, hm, e, en, e1⟩
  · refine of_found (z := z) (f := 1) h hM0 (by decide) ?_ ?_
    · simp only [f_X8_tear, ick_X, isStation8 h, Option.bind_some, if_neg h1, rowOf8 h hi, miss8 h hi, if_pos e]
      rw [if_neg (by decide), bindeta]; rfl
    · intro g1 _ hs
      simp only [f_X9_tear, ick_M, isStation9, Option.bind_some, if_neg h1, gr_M hs, mRef, al43 hs hi10, e]
      rw [if_neg n9lt, bindeta]; rfl
  · have hev : Ev [43] [] V (vs V 43 i (-9)) := (Ev.rf _ _ V).s (by decide) (by decide)
    have hch : Ch [5] g (setI g (5, i) 1 (-1)) := Ch.set (show 5 ∈ [5] by decide)
    refine op_upd (hm := hM0) (hvf := h.vf.st hev (by decide) (by decide) (fun s hs _ => ⟨rfl, vs_nk (by omega), fun _ _ => rfl⟩)) (C := [5]) (D := [43]) (E := []) (r := 1) h ?_ hch hev (by decide) ?_ (by decide) (by decide) ?_ ?_ ?_
    · simp only [f_X8_tear, ick_X, isStation8 h, Option.bind_some, if_neg h1, rowOf8 h hi, miss8 h hi, if_neg en, pI_X]
      rw [if_pos trivial]
    · intro hs
      simp only [f_X9_tear, ick_M, isStation9, Option.bind_some, if_neg h1, gr_M hs, mRef, al43 hs hi10, e]
      rw [if_pos (nIge (by omega)), as_M hs (by decide) (by decide) (vp_n (N := 10) hi10 (by decide)), nI_cl (show i < 2147483648 by omega)]
      rfl
    · obtain ⟨w0, w1, w2, w3, w4, w5⟩ := h.v
      refine ⟨w0, w1, w2, w3, fun s hs => ?_, w5⟩
      by_cases e5 : s = i
      · rw [e5, vs_eq]; exact Or.inl rfl
      · rw [vs_nk e5]; exact w4 s hs
    · intro n k v hz hn hk
      obtain ⟨c2, j⟩ := n
      simp only [List.mem_cons, List.not_mem_nil, or_false] at hn
      subst hn
      simp only [cI, nst_e (hev.2 6 (by decide))] at hk
      simp at hk
      obtain ⟨⟨hj, rfl⟩, hk⟩ := hk
      rw [gI_set]
      by_cases e5 : j = i
      · subst e5
        rw [vs_eq, if_pos rfl] at hk
        rw [if_pos ⟨rfl, rfl⟩]; exact hk
      · rw [vs_nk e5] at hk
        rw [if_neg (by simp [e5]), h.r1 hj]; exact hk
    · exact h.h.cg (hev.h (by decide) (by decide)) (fun k => hch.i (by decide)) (fun k => hch.i (by decide)) (fun k => hch.i (by decide))
end ROX
