section TIM
variable {z : Nat}
theorem op_time (hz : 2000 ≤ z) (a b c : Int32) (hc : c = 0 ∨ c = 1) : OP (fun g => f_X8_time z (some (9, 0)) a b c g) (fun g => f_X9_time z (some (10, 0)) a b c g) := by
  intro g V h hM0 _
  by_cases h1 : inB a 0 (V 10 20 - 1) = 0
  · refine op_same h hM0 (r := -1) ?_ ?_
    · simp only [f_X8_time, ick_X, isQuake8 h, Option.bind_some, h1, if_true]
    · simp only [f_X9_time, ick_M, isQuake9, Option.bind_some, h1, if_true]
  by_cases h2 : inB b 0 143 = 0
  · refine op_same h hM0 (r := -1) ?_ ?_
    · simp only [f_X8_time, ick_X, isQuake8 h, Option.bind_some, if_neg h1, cell8, h2, if_true]
    · simp only [f_X9_time, ick_M, isQuake9, Option.bind_some, if_neg h1, cell9, h2, if_true]
  obtain ⟨q, hq, rfl⟩ := qkOf h h1
  obtain ⟨d, hd, rfl⟩ := clOf h2
  obtain ⟨g2, a1, a2, a3, a4, a5, a6, a7⟩ := heapOf8 hz h hq
  obtain ⟨V2, k1, k2, k3⟩ := setHeap9 hz a3.s h.v.hv q
  obtain ⟨p1, x, p2, p3, p4, p5, p6⟩ := k3 d hd
  obtain ⟨f1, f2⟩ := a4 d hd
  have hvc : ∀ r, r = 52 ∨ r = 53 → vp_in (nI d) (mLen r) := fun r hr => by rcases hr with e | e <;> subst e <;> exact vp_n (N := 144) hd (by decide)
  by_cases hh : lo V q d ≤ hi V q d
  · have ex := p6 hh
    subst ex
    have h8 : f_X8_time z (some (9, 0)) (nI q) (nI d) c g = some (1, setI g2 (9, 0) 13 (if c = 0 then iI (lo V q d) else iI (hi V q d))) := by
      simp only [f_X8_time, ick_X, isQuake8 h, Option.bind_some, if_neg h1, cell8, if_neg h2, a1, hs8 a3.b1 a4 (bd_lo h.v hq) hd, if_pos hh]
      rw [if_neg (by decide)]
      rcases hc with rfl | rfl
      · rw [if_pos rfl, if_pos rfl, gR_X]
        simp only [Option.bind_some]
        rw [show gR g2 (1, 0) 0 = some (21, 0) from a3.b1.1.2.2.1, ald_X a3.b1.2.2.1 (by decide) (by decide) hd (by decide), f1]
        rfl
      · rw [if_neg (by decide), if_neg (by decide), gR_X]
        simp only [Option.bind_some]
        rw [show gR g2 (1, 0) 1 = some (22, 0) from a3.b1.1.2.2.2, ald_X a3.b1.2.2.2.1 (by decide) (by decide) hd (by decide), f2]
        rfl
    have h9 : ∀ g3, SM g3 → (∃ V3, f_X9_setHeap z (some (10, 0)) (nI q) (wM g3 V) = some (nI (ncl V q 144), wM g3 V3) ∧ EqR V V3 ∧ HP V q V3 144) → ∃ V3, EqR V V3 ∧ f_X9_time z (some (10, 0)) (nI q) (nI d) c (wM g3 V) = some (1, wM g3 (vs V3 10 2 (if c = 0 then iI (lo V q d) else iI (hi V q d)))) := by
      intro g3 hs ⟨V3, b1, b2, b3⟩
      refine ⟨V3, b2, ?_⟩
      obtain ⟨t1, y, t2, -, -, -, t6⟩ := b3 d hd
      have ey := t6 hh
      subst ey
      simp only [f_X9_time, ick_M, isQuake9, Option.bind_some, if_neg h1, cell9, if_neg h2, b1, has9 hs h.v.hv b3 hd, if_pos hh]
      rw [if_neg (by decide)]
      rcases hc with rfl | rfl
      · rw [if_pos rfl, if_pos rfl, gr_M hs]
        simp only [Option.bind_some, mRef]
        rw [al_M hs (by decide) (by decide) (hvc 52 (Or.inl rfl)), nI_cl (show d < 2147483648 by omega), t2]
        simp only [Option.bind_some, pu_M]
      · rw [if_neg (by decide), if_neg (by decide), gr_M hs]
        simp only [Option.bind_some, mRef]
        rw [al_M hs (by decide) (by decide) (hvc 53 (Or.inr rfl)), nI_cl (show d < 2147483648 by omega), t1]
        simp only [Option.bind_some, pu_M]
    generalize hw : (if c = 0 then iI (lo V q d) else iI (hi V q d)) = w at h8 h9
    have hch : Ch [9] g2 (setI g2 (9, 0) 13 w) := Ch.set (by decide)
    obtain ⟨V3, b1, b2⟩ := h9 (setI g2 (9, 0) 13 w) (a3.sm1 hch) (setHeap9 hz (a3.sm1 hch) h.v.hv q)
    have hev : Ev [52, 53] [2] V (vs V3 10 2 w) := ((Ev.q b1).sub (by decide) (by decide)).t (by decide)
    refine ⟨1, setI g2 (9, 0) 13 w, vs V3 10 2 w, h8, ?_, ?_, ?_⟩
    · rw [hch.mm (by decide) (a2.mm (by decide) hM0)] at b2; exact b2
    · refine a3.upd (C := [9]) hch hev (by decide) (by decide) (h.v.cg hev (by decide) (by decide) ?_) (fun n k v hz2 hn hk => ?_) (a3.h.cg (hev.h (by decide) (by decide)) (fun k => hch.i (by decide)) (fun k => hch.i (by decide)) (fun k => hch.i (by decide))) (h.vf.cg hev (by decide) (by decide))
      · rw [nms_e (hev.2 24 (by decide)), hev.2 24 (by decide)]; exact h.v.ms
      · obtain ⟨c2, j⟩ := n
        simp only [List.mem_cons, List.not_mem_nil, or_false] at hn
        subst hn
        have hj : j = 0 := hz2 (by simp)
        subst hj
        rw [gI_set]
        by_cases e5 : k = 13
        · subst e5
          simp [cI, vs] at hk
          rw [if_pos ⟨rfl, rfl⟩]; exact hk
        · rw [if_neg (by simp [e5])]
          refine a3.i (v := v) ?_
          rw [← hk]
          simp [cI, vs, e5, b1 10 (by decide) (by decide)]
    · rw [nms_e (hev.2 24 (by decide))]; omega
  · refine op_heap (a2.mm (by decide) hM0) (g2 := g2) (V2 := V2) (r := -9) ?_ a3 ?_ k2
    · simp only [f_X8_time, ick_X, isQuake8 h, Option.bind_some, if_neg h1, cell8, if_neg h2, a1, hs8 a3.b1 a4 (bd_lo h.v hq) hd, if_neg hh]
      rw [if_pos trivial]
    · simp only [f_X9_time, ick_M, isQuake9, Option.bind_some, if_neg h1, cell9, if_neg h2, k1, has9 a3.s h.v.hv k3 hd, if_neg hh]
      rw [if_pos trivial]
theorem op_holds (hz : 2000 ≤ z) (a b c : Int32) : OP (fun g => f_X8_holds z (some (9, 0)) a b c g) (fun g => f_X9_holds z (some (10, 0)) a b c g) := by
  intro g V h hM0 _
  by_cases h1 : inB a 0 (V 10 20 - 1) = 0
  · refine op_same h hM0 (r := -1) ?_ ?_
    · simp only [f_X8_holds, ick_X, isQuake8 h, Option.bind_some, h1, if_true]
    · simp only [f_X9_holds, ick_M, isQuake9, Option.bind_some, h1, if_true]
  by_cases h2 : inB b 0 143 = 0
  · refine op_same h hM0 (r := -1) ?_ ?_
    · simp only [f_X8_holds, ick_X, isQuake8 h, Option.bind_some, if_neg h1, cell8, h2, if_true]
    · simp only [f_X9_holds, ick_M, isQuake9, Option.bind_some, if_neg h1, cell9, h2, if_true]
  obtain ⟨q, hq, rfl⟩ := qkOf h h1
  obtain ⟨d, hd, rfl⟩ := clOf h2
  obtain ⟨g2, a1, a2, a3, a4, a5, a6, a7⟩ := heapOf8 hz h hq
  obtain ⟨V2, k1, k2, k3⟩ := setHeap9 hz a3.s h.v.hv q
  obtain ⟨p1, x, p2, p3, p4, p5, p6⟩ := k3 d hd
  obtain ⟨f1, f2⟩ := a4 d hd
  have hvc : ∀ r, r = 52 ∨ r = 53 → vp_in (nI d) (mLen r) := fun r hr => by rcases hr with e | e <;> subst e <;> exact vp_n (N := 144) hd (by decide)
  obtain ⟨bd1, bd2, bd3, bd4⟩ := bd_lo h.v hq d hd
  have hcl := ncl_le V q 144
  have hout : ∀ y : Int, -2147483648 ≤ y → y < 2147483648 → hi V q d < y → inB c (iI y) (iI (hi V q d)) = 0 := fun y y1 y2 y3 => by
    unfold inB
    by_cases w : c < iI y
    · rw [if_pos w]
    · rw [if_neg w]
      have w2 : iI y ≤ c := Int32.not_lt.mp w
      have w3 : iI (hi V q d) < iI y := (iI_lt (by omega) (by omega) y1 y2).mpr y3
      rw [if_pos (Int32.lt_of_lt_of_le w3 w2)]
  refine op_heap (a2.mm (by decide) hM0) (g2 := g2) (V2 := V2) (r := if inB c (iI (lo V q d)) (iI (hi V q d)) = 0 then 0 else 1) ?_ a3 ?_ k2
  · simp only [f_X8_holds, ick_X, isQuake8 h, Option.bind_some, if_neg h1, cell8, if_neg h2, a1, gR_X, show gR g2 (1, 0) 0 = some (21, 0) from a3.b1.1.2.2.1, show gR g2 (1, 0) 1 = some (22, 0) from a3.b1.1.2.2.2, ald_X a3.b1.2.2.1 (by decide) (by decide) hd (by decide), ald_X a3.b1.2.2.2.1 (by decide) (by decide) hd (by decide), f1, f2, in8]
    split <;> rfl
  · simp only [f_X9_holds, ick_M, isQuake9, Option.bind_some, if_neg h1, cell9, if_neg h2, k1]
    by_cases hx : nI (ncl V q 144) ≤ 0
    · have h0 : ncl V q 144 = 0 := by have := (nI_leI (b := 0) (by omega) (by omega)).mp hx; omega
      have hov : ¬ lo V q d ≤ hi V q d := fun w => by
        have := ncl_mono (V := V) (q := q) (a := d + 1) 144 (by omega)
        have e : ncl V q (d + 1) = ncl V q d + 1 := by conv => lhs; unfold ncl; rw [if_pos w]
        omega
      rw [if_pos hx, hout (lo V q d) (by omega) (by omega) (by omega), if_pos rfl]
    · rw [if_neg hx]
      simp only [gr_M a3.s, mRef, Option.bind_some]
      rw [al_M a3.s (by decide) (by decide) (hvc 52 (Or.inl rfl)), al_M a3.s (by decide) (by decide) (hvc 53 (Or.inr rfl)), nI_cl (show d < 2147483648 by omega), p1, p2]
      simp only [Option.bind_some, in9]
      by_cases hh : lo V q d ≤ hi V q d
      · rw [p6 hh]; split <;> rfl
      · have hx2 : ¬ x ≤ hi V q d := fun w => hh (p5.mp w)
        rw [hout x (by omega) (by omega) (by omega), hout (lo V q d) (by omega) (by omega) (by omega), if_pos rfl, if_pos rfl]
end TIM
