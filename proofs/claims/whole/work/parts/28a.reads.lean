section REA
variable {z : Nat}
theorem op_asked : OP (fun g => f_X8_asked z (some (9, 0)) g) (fun g => f_X9_asked z (some (10, 0)) g) := by
  intro g V h hM0 _
  refine op_same h hM0 (r := V 10 2) ?_ ?_
  · simp only [f_X8_asked, gi_C, Option.bind_some, h.f13]
  · simp only [f_X9_asked, gi_M, Option.bind_some]
theorem op_finding : OP (fun g => f_X8_finding z (some (9, 0)) g) (fun g => f_X9_finding z (some (10, 0)) g) := by
  intro g V h hM0 _
  refine op_same h hM0 (r := V 10 0) ?_ ?_
  · simp only [f_X8_finding, gi_C, Option.bind_some, h.f9]
  · simp only [f_X9_finding, gi_M, Option.bind_some]
theorem op_count (a : Int32) : OP (fun g => f_X8_count z (some (9, 0)) a g) (fun g => f_X9_count z (some (10, 0)) a g) := by
  intro g V h hM0 _
  have e1 := h.v.hv.ns.1
  have e2 := h.v.tw.1
  have e3 := h.v.hv.np.1
  have e4 := h.v.qk.1
  refine op_same h hM0 (r := if a = 0 then V 10 6 else if a = 1 then V 10 9 else if a = 2 then V 10 15 else if a = 3 then V 10 20 else if a = 4 then V 10 24 else if a = 5 then V 10 5 else -1) ?_ ?_
  · simp only [f_X8_count, tsw, gr_C h.b1, cRef, gi_C, Option.bind_some, ick_X, sizeJ h.c0, sizeJ h.c1, sizeJ h.c2, sizeJ h.c3, h.f10, h.f12, e1, e2, e3, e4]
    repeat' split
    all_goals rfl
  · simp only [f_X9_count, tsw, gi_M, Option.bind_some]
    repeat' split
    all_goals rfl
theorem findOf {a : Int32} (hb : ¬ inB a 1 5 = 0) : ∃ i, 1 ≤ i ∧ i < 6 ∧ a = nI i := by
  obtain ⟨h1, h2⟩ := inB_ne hb
  have h0 : ¬ a < 0 := by
    intro q
    exact absurd (Int32.lt_of_lt_of_le q (show (0 : Int32) ≤ 1 by decide)) (Int32.not_lt.mpr h1)
  obtain ⟨j, hj, rfl⟩ := nI_of h0
  rw [show (5 : Int32) = nI 5 from rfl, nI_leI (by omega) (by omega)] at h2
  rw [show (1 : Int32) = nI 1 from rfl, nI_leI (by omega) (by omega)] at h1
  exact ⟨j, h1, by omega, rfl⟩
theorem op_findings (a : Int32) : OP (fun g => f_X8_findings z (some (9, 0)) a g) (fun g => f_X9_findings z (some (10, 0)) a g) := by
  intro g V h hM0 _
  by_cases hb : inB a 1 5 = 0
  · refine op_same h hM0 (r := -1) ?_ ?_
    · simp only [f_X8_findings, in8, Option.bind_some, hb, if_true]
    · simp only [f_X9_findings, in9, Option.bind_some, hb, if_true]
  · obtain ⟨i, hi0, hi, rfl⟩ := findOf hb
    refine op_same h hM0 (r := V 40 i) ?_ ?_
    · simp only [f_X8_findings, in8, Option.bind_some, if_neg hb, gr_C h.b1, cRef, ald_X h.b1.2.2.2.2.2 (by decide) (by decide) hi (by decide), h.an hi]
    · simp only [f_X9_findings, in9, Option.bind_some, if_neg hb, gr_M h.s, mRef]
      rw [al_M h.s (by decide) (by decide) (vp_n (N := 6) hi (by decide))]
      simp only [Option.bind_some, nI_cl (show i < 2147483648 by omega)]
theorem iabs_n {x y : Nat} (hx : x < 1000000) (hy : y < 1000000) : iabs (nI x - nI y) = nI (x - y + (y - x)) := by
  unfold iabs
  rw [nI_iI x, nI_iI y, iI_sub, show (0 : Int32) = iI 0 from by decide]
  by_cases h : (0 : Int) ≤ (x : Int) - y
  · rw [if_pos ((iI_le (by omega) (by omega) (by omega) (by omega)).mpr h), nI_iI]; congr 1; omega
  · rw [if_neg (fun w => h ((iI_le (by omega) (by omega) (by omega) (by omega)).mp w)), iI_sub, nI_iI]; congr 1; omega
/-- the class's table of travels -/
def TT (g : Hp) (V : VV) : Prop := RC1 g.1 ∧ slo V ≤ 400 ∧ ∀ k, k < 144 → gI g (20, 0) k = nI (isq (slo V * ((k / 12) * (k / 12) + (k % 12) * (k % 12))))
theorem IN.tt {g : Hp} {V : VV} (h : IN g V) : TT g V := ⟨h.b1, h.v.hv.sl.2, fun _ hk => h.tr hk⟩
theorem between8 {g : Hp} {V : VV} (h : TT g V) {a b : Nat} (ha : a < 144) (hb : b < 144) : f_X7_between z (some (8, 0)) (nI a) (nI b) g = some (nI (tv (slo V) a b), g) := by
  have e : gR g (8, 0) 0 = some (20, 0) := h.1.1.2.1
  have hn : gN g (20, 0) = 144 := h.1.2.1
  unfold f_X7_between
  rw [show (12 : Int32) = nI 12 from rfl]
  simp only [rmI_n (show a < 2 ^ 31 by omega) (show 0 < 12 by decide) (show 12 < 2 ^ 31 by decide), rmI_n (show b < 2 ^ 31 by omega) (show 0 < 12 by decide) (show 12 < 2 ^ 31 by decide), dvI_n (show a < 2 ^ 31 by omega) (show 0 < 12 by decide) (show 12 < 2 ^ 31 by decide), dvI_n (show b < 2 ^ 31 by omega) (show 0 < 12 by decide) (show 12 < 2 ^ 31 by decide), gR_X, Option.bind_some, e, iabs_n (show a / 12 < 1000000 by omega) (show b / 12 < 1000000 by omega), iabs_n (show a % 12 < 1000000 by omega) (show b % 12 < 1000000 by omega), pk_mul, nI_add]
  have hd2 : a % 12 - b % 12 + (b % 12 - a % 12) < 12 := by omega
  have hd1 : a / 12 - b / 12 + (b / 12 - a / 12) < 12 := by omega
  unfold tv sq
  generalize a % 12 - b % 12 + (b % 12 - a % 12) = d2 at hd2 ⊢
  generalize a / 12 - b / 12 + (b / 12 - a / 12) = d1 at hd1 ⊢
  rw [ald_X hn (by decide) (by decide) (show 12 * d1 + d2 < 144 by omega) (by decide), h.2.2 _ (by omega)]
  have e1 : (12 * d1 + d2) / 12 = d1 := by omega
  have e2 : (12 * d1 + d2) % 12 = d2 := by omega
  rw [e1, e2, Nat.add_comm (d1 * d1)]
  rfl
theorem op_travel (hz : 2000 ≤ z) (a b : Int32) : OP (fun g => f_X8_travel z (some (9, 0)) a b g) (fun g => f_X9_travel z (some (10, 0)) a b g) := by
  intro g V h hM0 _
  by_cases h1 : inB a 0 143 = 0
  · refine op_same h hM0 (r := -1) ?_ ?_
    · simp only [f_X8_travel, cell8, Option.bind_some, h1, if_true]
    · simp only [f_X9_travel, cell9, Option.bind_some, h1, if_true]
  by_cases h2 : inB b 0 143 = 0
  · refine op_same h hM0 (r := -1) ?_ ?_
    · simp only [f_X8_travel, cell8, Option.bind_some, if_neg h1, h2, if_true]
    · simp only [f_X9_travel, cell9, Option.bind_some, if_neg h1, h2, if_true]
  obtain ⟨i, hi, rfl⟩ := clOf h1
  obtain ⟨j, hj, rfl⟩ := clOf h2
  refine op_same h hM0 (r := nI (tv (slo V) i j)) ?_ ?_
  · simp only [f_X8_travel, cell8, Option.bind_some, if_neg h1, if_neg h2, gr_C h.b1, cRef, ick_X, between8 h.tt hi hj]
  · simp only [f_X9_travel, cell9, Option.bind_some, if_neg h1, if_neg h2, ick_M, travels9 hz h.v.hv.sl.1 h.v.hv.sl.2 hi hj]
theorem inB_in {i n : Nat} (h : i < n) (hn : n < 1073741824) : inB (nI i) 0 (nI n - 1) = 1 := by
  cases n with
  | zero => omega
  | succ n =>
    unfold inB
    rw [nI_pred, show (0 : Int32) = nI 0 from rfl, if_neg (fun w => by have := (nI_ltI (by omega) (by omega)).mp w; omega), if_neg (fun w => by have := (nI_ltI (by omega) (by omega)).mp w; omega)]
theorem op_message (a b : Int32) : OP (fun g => f_X8_message z (some (9, 0)) a b g) (fun g => f_X9_message z (some (10, 0)) a b g) := by
  intro g V h hM0 hms
  by_cases h1 : inB b 0 3 = 0
  · refine op_same h hM0 (r := -1) ?_ ?_
    · simp only [f_X8_message, in8, Option.bind_some, h1, if_true]
    · simp only [f_X9_message, in9, Option.bind_some, h1, if_true]
  have hk := kp_b V
  obtain ⟨k, hk3, rfl⟩ : ∃ k, k ≤ 3 ∧ b = nI k := by
    rw [show (3 : Int32) = nI 3 from rfl] at h1
    exact inB_nIr (by omega) h1
  by_cases h2 : inB a 0 (nI (kp V) - 1) = 0
  · refine op_same h hM0 (r := -9) ?_ ?_
    · simp only [f_X8_message, in8, Option.bind_some, if_neg h1, gr_C h.b1, cRef, ick_X, sizeJ h.c4, h2, if_true]
    · simp only [f_X9_message, in9, Option.bind_some, if_neg h1, gi_M, h.v.ms]
      by_cases h3 : inB a 0 (nI (nms V) - 1) = 0
      · simp only [h3, if_true]
      · obtain ⟨i, hi, rfl⟩ := inB_nI (by omega) h3
        have hik : ¬ i < kp V := fun w => by rw [inB_in w (by omega)] at h2; exact absurd h2 (by decide)
        have h4 : 400 ≤ i := by unfold kp at hik; split at hik <;> omega
        rw [if_neg h3, show (400 : Int32) = nI 400 from rfl, if_pos ((nI_leI (by omega) (by omega)).mpr h4)]
  · obtain ⟨i, hi, rfl⟩ := inB_nI (by omega) h2
    refine op_same h hM0 (r := V 54 (4 * i + k)) ?_ ?_
    · simp only [f_X8_message, in8, Option.bind_some, if_neg h1, gr_C h.b1, cRef, ick_X, sizeJ h.c4, if_neg h2, getM h hi, ckc_X, tsw, gI_X, h.m0 hi (show 0 < 4 by decide), h.m0 hi (show 1 < 4 by decide), h.m0 hi (show 2 < 4 by decide), h.m0 hi (show 3 < 4 by decide)]
      rcases (by omega : k = 0 ∨ k = 1 ∨ k = 2 ∨ k = 3) with rfl | rfl | rfl | rfl
      · rw [if_pos (by decide)]
      · rw [if_neg (by decide), if_pos (by decide)]
      · rw [if_neg (by decide), if_neg (by decide), if_pos (by decide)]
      · rw [if_neg (by decide), if_neg (by decide), if_neg (by decide)]
    · have h3 : ¬ inB (nI i) 0 (nI (nms V) - 1) = 0 := by rw [inB_in (by omega) (by omega)]; decide
      simp only [f_X9_message, in9, Option.bind_some, if_neg h1, gi_M, h.v.ms, if_neg h3]
      rw [show (400 : Int32) = nI 400 from rfl, if_neg (fun w => by have := (nI_leI (by omega) (by omega)).mp w; omega)]
      simp only [gr_M h.s, mRef, Option.bind_some]
      rw [show (4 : Int32) = nI 4 from rfl, pk_mul, nI_add]
      rw [al_M h.s (by decide) (by decide) (vp_n (N := 1600) (by omega) (by decide))]
      simp only [Option.bind_some, nI_cl (show 4 * i + k < 2147483648 by omega)]
theorem kindOf9 {g : Hp} {V : VV} (h : SM g) (hV : VI V) {p : Nat} (hp : p < npk V) : f_X9_kindOf z (some (10, 0)) (nI p) (wM g V) = some (kdF V p, wM g V) := by
  have hp60 := hV.hv.np.2
  have hq5 := hV.qk.2
  unfold f_X9_kindOf kdF
  simp only [gr_M h, mRef, Option.bind_some]
  rw [al_M h (by decide) (by decide) (vp_n (N := 60) (by omega) (by decide))]
  simp only [Option.bind_some, nI_cl (show p < 2147483648 by omega)]
  rcases (hV.pq hp).2.2.2 with e | ⟨q, hq, e⟩
  · rw [e, if_neg (by decide), if_pos rfl]
  · rw [e, show (0 : Int32) = nI 0 from rfl, if_pos ((nI_leI (by omega) (by omega)).mpr (Nat.zero_le _)), if_neg (fun w => by have := nI_0; exact absurd w (nI_ne9 (by omega)))]
    rw [al_M h (by decide) (by decide) (vp_n (N := 5) (by omega) (by decide))]
    simp only [Option.bind_some]
    by_cases h2 : V 51 (nI q).toNatClampNeg = nI p
    · rw [if_pos h2, if_pos h2]
    · rw [if_neg h2, if_neg h2]
end REA
