section WRJ
variable {z : Nat}
/-- class's ints of codes C; one code's contents by hand -/
theorem op_upd {A8 A9 : Hp → Option (Int32 × Hp)} {g g1 : Hp} {V V2 : VV} {r : Int32} {C D E : List Nat} (h : IN g V) (hm : wM g V = g) (h8 : A8 g = some (r, g1)) (hch : Ch C g g1) (hev : Ev D E V V2) (hC : noM C = true) (h9 : SM g1 → A9 (wM g1 V) = some (r, wM g1 V2)) (hd : depOk C D E = true) (hE : dj [6, 9, 15, 20, 24] E = true) (hv : VI V2) (hI : ∀ n k v, Z0 n → n.1 ∈ C → cI V2 n k = some v → gI g1 n k = v) (hH : HC g1 V2) (hvf : VF V2) : ∃ r g1 V2, A8 g = some (r, g1) ∧ A9 g1 = some (r, wM g1 V2) ∧ IN (wM g1 V2) V2 ∧ nms V2 ≤ nms V + 120 := by
  refine ⟨r, g1, V2, h8, ?_, h.upd hch hev hd hE hv hI hH hvf, ?_⟩
  · have := h9 (h.sm1 hch)
    rw [hch.mm hC hm] at this
    exact this
  · rw [nms_e (hev.2 24 (dj_x hE (by decide)))]; omega
theorem HC.forget {g : Hp} {V : VV} : HC (setI g (1, 0) 5 (-9)) V := Or.inl (by rw [gI_set, if_pos ⟨rfl, rfl⟩])
theorem forget8 {g : Hp} : f_X0_forget z (some (1, 0)) g = some ((), setI g (1, 0) 5 (-9)) := by simp only [f_X0_forget, pI_X, Option.bind_some]
theorem op_deaf (a b : Int32) (hb : b = 0 ∨ b = 1) : OP (fun g => f_X8_deaf z (some (9, 0)) a b g) (fun g => f_X9_deaf z (some (10, 0)) a b g) := by
  intro g V h hM0 _
  by_cases h1 : inB a 0 (V 10 6 - 1) = 0
  · refine op_same h hM0 (r := -1) ?_ ?_
    · simp only [f_X8_deaf, ick_X, isStation8 h, Option.bind_some, h1, if_true]
    · simp only [f_X9_deaf, ick_M, isStation9, Option.bind_some, h1, if_true]
  obtain ⟨i, hi, rfl⟩ := stOf h h1
  have hi10 := h.v.hv.ns.2
  have hev : Ev [60] [] V (vs V 60 i b) := (Ev.rf _ _ V).s (by decide) (by decide)
  refine op_upd (hm := hM0) (hvf := h.vf.st hev (by decide) (by decide) (fun s hs _ => ⟨vs_nk (by omega), rfl, fun _ _ => rfl⟩)) (C := [1, 6]) (D := [60]) (E := []) (r := if V 60 i = 0 then 0 else 1) (g1 := setI (setI g (6, i) 2 b) (1, 0) 5 (-9)) (V2 := vs V 60 i b) h ?_ ((Ch.set (show 6 ∈ [1, 6] by decide)).tr (Ch.set (by decide))) hev (by decide) ?_ (by decide) (by decide) ?_ ?_ HC.forget
  · have e : getR (some (9, 0)) 9 6 (setI g (6, i) 2 b) = some (some (1, 0)) := gr_C (g := setI g (6, i) 2 b) h.b1
    have e2 : putZ (some (6, i)) 6 2 b g = some (setI g (6, i) 2 b) := by simp [putZ, hb]
    simp only [f_X8_deaf, ick_X, isStation8 h, Option.bind_some, if_neg h1, gr_C h.b1, cRef, getS h hi, ckc_X, gI_X, h.s2 hi, e2, e, forget8]
    split <;> rfl
  · intro hs
    have e2 : vp_nar .boolean b = b := by rcases hb with rfl | rfl <;> decide
    simp only [f_X9_deaf, ick_M, isStation9, Option.bind_some, if_neg h1, gr_M hs, mRef]
    rw [az_M hs (vp_n (N := 10) (by omega) (by decide)), sz_M hs (vp_n (N := 10) (by omega) (by decide))]
    simp only [Option.bind_some, nI_cl (show i < 2147483648 by omega), e2]
    split <;> rfl
  · obtain ⟨hv, w⟩ := h.v
    obtain ⟨v1, v2, v3, v4, v5, v6, v7⟩ := hv
    refine ⟨⟨v1, v2, v3, v4, v5, fun s hs => ⟨(v6 s hs).1, (v6 s hs).2.1, ?_⟩, v7⟩, w⟩
    show (if 60 = 60 ∧ s = i then b else V 60 s) = 0 ∨ (if 60 = 60 ∧ s = i then b else V 60 s) = 1
    by_cases e : s = i
    · rw [if_pos ⟨rfl, e⟩]; exact hb
    · rw [if_neg (by simp [e])]; exact (v6 s hs).2.2
  · intro n k v hz hn hk
    obtain ⟨c, j⟩ := n
    simp only [List.mem_cons, List.not_mem_nil, or_false] at hn
    rcases hn with rfl | rfl
    · simp [cI] at hk
    · rw [gI_set, if_neg (by simp), gI_set]
      by_cases e : j = i ∧ k = 2
      · obtain ⟨rfl, rfl⟩ := e
        simp [cI, vs, nst] at hk
        rw [if_pos ⟨rfl, rfl⟩]; exact hk.2
      · rw [if_neg (by simp; intro q; exact fun w => e ⟨q, w⟩)]
        refine h.i (v := v) ?_
        rw [← hk]
        by_cases ej : j = i
        · have ek : ¬ k = 2 := fun w => e ⟨ej, w⟩
          simp [cI, vs, ek, nst]
        · simp [cI, vs, ej, nst]
theorem op_later (a : Int32) : OP (fun g => f_X8_later z (some (9, 0)) a g) (fun g => f_X9_later z (some (10, 0)) a g) := by
  intro g V h hM0 _
  obtain ⟨hn, hn2⟩ := h.v.hv.no
  have e0 : (100000 : Int32) - nI (nw V) = nI (100000 - nw V) := by rw [show (100000 : Int32) = nI 100000 from rfl, pk_sub hn2]
  by_cases h1 : inB a 0 (100000 - V 10 5) = 0
  · refine op_same h hM0 (r := -1) ?_ ?_
    · simp only [f_X8_later, gi_C, h.f10, in8, Option.bind_some, h1, if_true]
    · simp only [f_X9_later, gi_M, Option.bind_some]
      unfold inB at h1
      by_cases h2 : a < 0
      · rw [if_pos h2]
      · rw [if_neg h2] at h1 ⊢
        by_cases h3 : 100000 - V 10 5 < a
        · rw [if_neg (fun w => absurd h3 (Int32.not_lt.mpr w))]
        · rw [if_neg h3] at h1; exact absurd h1 (by decide)
  have h1' := h1
  rw [hn, e0] at h1'
  obtain ⟨i, hi, rfl⟩ := inB_nIr (by omega) h1'
  have hev : Ev [] [5] V (vs V 10 5 (V 10 5 + nI i)) := (Ev.rf _ _ V).t (by decide)
  have e5 : V 10 5 + nI i = nI (nw V + i) := by rw [hn, nI_add]
  refine op_upd (hm := hM0) (hvf := h.vf.cg hev (by decide) (by decide)) (C := [1, 9]) (D := []) (E := [5]) (r := V 10 5 + nI i) (g1 := setI (setI g (9, 0) 10 (V 10 5 + nI i)) (1, 0) 5 (-9)) (V2 := vs V 10 5 (V 10 5 + nI i)) h ?_ ((Ch.set (by decide)).tr (Ch.set (by decide))) hev (by decide) ?_ (by decide) (by decide) ?_ ?_ HC.forget
  · have e : getR (some (9, 0)) 9 6 (setI g (9, 0) 10 (V 10 5 + nI i)) = some (some (1, 0)) := gr_C (g := setI g (9, 0) 10 (V 10 5 + nI i)) h.b1
    simp only [f_X8_later, gi_C, h.f10, in8, Option.bind_some, if_neg h1, pu_C, e, ick_X, forget8, gI_set]
    simp
  · intro hs
    have e1 : ¬ nI i < 0 := by rw [show (0 : Int32) = nI 0 from rfl, nI_ltI (by omega) (by omega)]; omega
    have e2 : nI i ≤ 100000 - V 10 5 := by rw [hn, e0, nI_leI (by omega) (by omega)]; omega
    simp only [f_X9_later, gi_M, pu_M, Option.bind_some, if_neg e1, if_pos e2, vs_eq]
  · have e6 : vs V 10 5 (V 10 5 + nI i) 10 5 = nI (nw V + i) := vs_eq.trans e5
    have e7 : nw (vs V 10 5 (V 10 5 + nI i)) = nw V + i := by
      show (vs V 10 5 (V 10 5 + nI i) 10 5).toNatClampNeg = _
      rw [e6]; exact nI_cl (by omega)
    obtain ⟨hv, w⟩ := h.v
    obtain ⟨v1, v2, v3, v4, v5, v6, v7⟩ := hv
    refine ⟨⟨v1, v2, v3, v4, ?_, v6, fun p hp => ?_⟩, w⟩
    · rw [e7]; exact ⟨e6, by omega⟩
    · obtain ⟨w1, w2, w3, w4⟩ := v7 p hp
      refine ⟨w1, w2, w3, ?_⟩
      rw [e7]
      exact Nat.le_trans w4 (by omega)
  · intro n k v hz hn hk
    obtain ⟨c, j⟩ := n
    simp only [List.mem_cons, List.not_mem_nil, or_false] at hn
    rcases hn with rfl | rfl
    · simp [cI] at hk
    · have hj : j = 0 := hz (by simp)
      subst hj
      rw [gI_set, if_neg (by simp), gI_set]
      by_cases e : k = 10
      · subst e
        simp [cI, vs] at hk
        rw [if_pos ⟨rfl, rfl⟩]; exact hk
      · rw [if_neg (by simp [e])]
        refine h.i (v := v) ?_
        rw [← hk]
        simp [cI, vs, e]
theorem op_level (a b : Int32) : OP (fun g => f_X8_level z (some (9, 0)) a b g) (fun g => f_X9_level z (some (10, 0)) a b g) := by
  intro g V h hM0 _
  by_cases h1 : inB a 1 4 = 0
  · refine op_same h hM0 (r := -1) ?_ ?_
    · simp only [f_X8_level, in8, Option.bind_some, h1, if_true]
    · simp only [f_X9_level, in9, Option.bind_some, h1, if_true]
  obtain ⟨i, hi1, hi4, rfl⟩ : ∃ i, 1 ≤ i ∧ i ≤ 4 ∧ a = nI i := by
    obtain ⟨w1, w2⟩ := inB_ne h1
    have h0 : ¬ a < 0 := fun q => absurd (Int32.lt_of_lt_of_le q (show (0 : Int32) ≤ 1 by decide)) (Int32.not_lt.mpr w1)
    obtain ⟨j, hj, rfl⟩ := nI_of h0
    rw [show (4 : Int32) = nI 4 from rfl, nI_leI (by omega) (by omega)] at w2
    rw [show (1 : Int32) = nI 1 from rfl, nI_leI (by omega) (by omega)] at w1
    exact ⟨j, w1, w2, rfl⟩
  have em : nI i - 1 = nI (i - 1) := by rw [show (1 : Int32) = nI 1 from rfl, pk_sub hi1]
  have ep : nI i + 1 = nI (i + 1) := by rw [nI_1]
  have h6 : gN g (23, 0) = 6 := h.b1.2.2.2.2.1
  have hal : ∀ (k : Nat) (g1 : Hp), SM g1 → k < 6 → aldI (some (45, 0)) (nI k) (wM g1 V) = some (V 45 k) := fun k g1 hs hk => by
    rw [al_M hs (by decide) (by decide) (vp_n (N := 6) hk (by decide)), nI_cl (show k < 2147483648 by omega)]
  have hac : ∀ k, k < 6 → aldI (some (23, 0)) (nI k) g = some (V 45 k) := fun k hk => by rw [ald_X h6 (by decide) (by decide) hk (by decide), h.ne hk]
  by_cases h2 : b ≤ V 45 (i - 1)
  · refine op_same h hM0 (r := -1) ?_ ?_
    · simp only [f_X8_level, in8, Option.bind_some, if_neg h1, gr_C h.b1, cRef, em, hac _ (show i - 1 < 6 by omega), if_pos h2]
    · simp only [f_X9_level, in9, Option.bind_some, if_neg h1, gr_M h.s, mRef, em, hal _ g h.s (show i - 1 < 6 by omega), if_pos h2]
  by_cases h3 : b < V 45 (i + 1)
  · have hev : Ev [45] [] V (vs V 45 i b) := (Ev.rf _ _ V).s (by decide) (by decide)
    have hch : Ch [23] g (setI g (23, 0) i b) := Ch.set (by decide)
    refine op_upd (hm := hM0) (hvf := h.vf.cg hev (by decide) (by decide)) (C := [23]) (D := [45]) (E := []) (r := V 45 i) (g1 := setI g (23, 0) i b) (V2 := vs V 45 i b) h ?_ hch hev (by decide) ?_ (by decide) (by decide) ?_ ?_ ?_
    · simp only [f_X8_level, in8, Option.bind_some, if_neg h1, gr_C h.b1, cRef, em, ep, hac _ (show i - 1 < 6 by omega), hac _ (show i + 1 < 6 by omega), hac _ (show i < 6 by omega), if_neg h2, if_pos h3, ast_X h6 (by decide) (by decide) (show i < 6 by omega) (by decide)]
    · intro hs
      simp only [f_X9_level, in9, Option.bind_some, if_neg h1, gr_M hs, mRef, em, ep, hal _ _ hs (show i - 1 < 6 by omega), hal _ _ hs (show i + 1 < 6 by omega), hal _ _ hs (show i < 6 by omega), if_neg h2, if_pos h3]
      rw [as_M hs (by decide) (by decide) (vp_n (N := 6) (by omega) (by decide)), nI_cl (show i < 2147483648 by omega)]
      rfl
    · exact h.v.cg hev (by decide) (by decide) h.v.ms
    · intro n k v hz hn hk
      obtain ⟨c, j⟩ := n
      simp only [List.mem_cons, List.not_mem_nil, or_false] at hn
      subst hn
      have hj : j = 0 := hz (by simp)
      subst hj
      rw [gI_set]
      by_cases e : k = i
      · subst e
        simp [cI, vs] at hk
        rw [if_pos ⟨rfl, rfl⟩]; exact hk.2
      · rw [if_neg (by simp [e])]
        refine h.i (v := v) ?_
        rw [← hk]
        simp [cI, vs, e]
    · exact h.h.cg (hev.h (by decide) (by decide)) (fun k => hch.i (by decide)) (fun k => hch.i (by decide)) (fun k => hch.i (by decide))
  · refine op_same h hM0 (r := -1) ?_ ?_
    · simp only [f_X8_level, in8, Option.bind_some, if_neg h1, gr_C h.b1, cRef, em, ep, hac _ (show i - 1 < 6 by omega), hac _ (show i + 1 < 6 by omega), if_neg h2, if_neg h3]
    · simp only [f_X9_level, in9, Option.bind_some, if_neg h1, gr_M h.s, mRef, em, ep, hal _ g h.s (show i - 1 < 6 by omega), hal _ g h.s (show i + 1 < 6 by omega), if_neg h2, if_neg h3]
end WRJ
