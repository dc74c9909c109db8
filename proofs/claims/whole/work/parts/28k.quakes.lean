section QUA
variable {z : Nat}
theorem IN.rows {g : Hp} {V V2 : VV} (h : IN g V) (e : EqR V V2) : IN (wM g V2) V2 := by
  refine h.upd (C := []) (Ch.rf _ _) (Ev.q e) (by decide) (by decide) (h.v.cg (Ev.q e) (by decide) (by decide) ?_) (fun n k v _ hn _ => absurd hn (by simp)) (h.h.cg ((Ev.q e).h (by decide) (by decide)) (fun _ => rfl) (fun _ => rfl) (fun _ => rfl)) (h.vf.cg (Ev.q e) (by decide) (by decide))
  rw [nms_e (by rw [e 10 (by decide) (by decide)]), e 10 (by decide) (by decide)]; exact h.v.ms
/-- read off a heap : the model has laid it -/
theorem op_heap {A8 A9 : Hp → Option (Int32 × Hp)} {g g2 : Hp} {V V2 : VV} {r : Int32} (hm : wM g2 V = g2) (h8 : A8 g = some (r, g2)) (h : IN g2 V) (h9 : A9 (wM g2 V) = some (r, wM g2 V2)) (e : EqR V V2) : ∃ r g1 V2, A8 g = some (r, g1) ∧ A9 g1 = some (r, wM g1 V2) ∧ IN (wM g1 V2) V2 ∧ nms V2 ≤ nms V + 120 :=
  ⟨r, g2, V2, h8, by rw [hm] at h9; exact h9, h.rows e, by rw [nms_e (by rw [e 10 (by decide) (by decide)])]; omega⟩
def tqF (V : VV) (q : Nat) (b : Int32) : Int32 := if b = 0 then nI (cntF V q (npk V)) else if b = 1 then nI (ncl V q 144) else if b = 2 then iI (lwF V q 144) else if b = 3 then iI (hgF V q 144) else if nI (ncl V q 144) = 0 then 1 else 0
theorem cnt_L {g : Hp} {V : VV} (h : SM g) (hV : VI V) {q : Nat} (p3 p2 : Int32) : ∀ (n v : Nat), v ≤ npk V → npk V - v < n → f_X9_tellsQuake_43_L z p3 (some (10, 0)) (nI q) p2 n (nI v) (nI (cntF V q v)) (wM g V) = some (nI (npk V), nI (cntF V q (npk V)), wM g V)
  | 0, v, _, h2 => absurd h2 (Nat.not_lt_zero _)
  | n + 1, v, h1, h2 => by
    have hp := hV.hv.np
    show f_X9_tellsQuake_43_b z p3 (some (10, 0)) (nI q) p2 (f_X9_tellsQuake_43_L z p3 (some (10, 0)) (nI q) p2 n) (nI v) (nI (cntF V q v)) (wM g V) = _
    unfold f_X9_tellsQuake_43_b
    simp only [gi_M, Option.bind_some, hp.1]
    by_cases he : npk V ≤ v
    · have e : v = npk V := by omega
      rw [if_pos ((nI_leI (by omega) (by omega)).mpr he), e]
    · rw [if_neg (fun w => he ((nI_leI (by omega) (by omega)).mp w))]
      simp only [gr_M h, mRef, Option.bind_some]
      rw [al_M h (by decide) (by decide) (vp_n (N := 60) (by omega) (by decide)), nI_cl (show v < 2147483648 by omega)]
      simp only [Option.bind_some]
      have e : (if V 50 v = nI q then some (1 : Int32) else some 0) = some (if V 50 v = nI q then 1 else 0) := by split <;> rfl
      rw [e]
      simp only [Option.bind_some, nI_1]
      have e2 : nI (cntF V q v) + (if V 50 v = nI q then 1 else 0) = nI (cntF V q (v + 1)) := by
        conv => rhs; unfold cntF
        split
        · rw [nI_1]
        · exact nI_add (cntF V q v) 0
      rw [e2]
      exact cnt_L h hV p3 p2 n (v + 1) (by omega) (by omega)
theorem sizeOf9a (hz : 2000 ≤ z) {g : Hp} {V V2 : VV} (h : SM g) (hV : VI V) (hE : EqR V V2) {q : Nat} (hq : q < nqk V) (hP : HP V q V2 144) : f_X9_sizeOf z (some (10, 0)) (nI q) 0 (wM g V2) = some (iI (lwF V q 144), wM g V2) ∧ f_X9_sizeOf z (some (10, 0)) (nI q) 1 (wM g V2) = some (iI (hgF V q 144), wM g V2) := sizeOf9 hz h hV hE hq hP
theorem VI.eqr {V V2 : VV} (h : VI V) (e : EqR V V2) : VI V2 := by
  refine h.cg (Ev.q e) (by decide) (by decide) ?_
  rw [nms_e (by rw [e 10 (by decide) (by decide)]), e 10 (by decide) (by decide)]; exact h.ms
theorem tellsQ9 (hz : 2000 ≤ z) {g : Hp} {V : VV} (h : SM g) (hV : VI V) {q : Nat} (hq : q < nqk V) (b : Int32) : ∃ V2, f_X9_tellsQuake z (some (10, 0)) (nI q) b (wM g V) = some (tqF V q b, wM g V2) ∧ EqR V V2 := by
  obtain ⟨V2, k1, k2, k3⟩ := setHeap9 hz h hV.hv q
  refine ⟨V2, ?_, k2⟩
  have hs := sizeOf9 hz h hV k2 hq k3
  have hc : f_X9_tellsQuake_43_L z (nI (ncl V q 144)) (some (10, 0)) (nI q) b z 0 0 (wM g V2) = some (nI (npk V), nI (cntF V q (npk V)), wM g V2) := by
    have := cnt_L (z := z) h (hV.eqr k2) (q := q) (nI (ncl V q 144)) b z 0 (Nat.zero_le _) (by have := (hV.eqr k2).hv.np.2; omega)
    rw [npk_e (V := V) (by rw [k2 10 (by decide) (by decide)]), cntF_e (k2 50 (by decide) (by decide)) (npk V)] at this
    exact this
  unfold f_X9_tellsQuake tqF
  simp only [ick_M, k1, Option.bind_some, tsw, hc, hs.1, hs.2]
  repeat' split
  all_goals rfl
theorem quake8 (hz : 2000 ≤ z) {g : Hp} {V : VV} (h : IN g V) {q : Nat} (hq : q < nqk V) {b : Int32} (hb : ¬ inB b 0 4 = 0) : ∃ g2, f_X8_quake z (some (9, 0)) (nI q) b g = some (tqF V q b, g2) ∧ Ch [1, 21, 22] g g2 ∧ IN g2 V := by
  have hqi : ¬ inB (nI q) 0 (V 10 20 - 1) = 0 := by have := h.v.qk; rw [this.1, inB_in hq (by omega)]; decide
  obtain ⟨g2, a1, a2, a3, a4, a5, a6, a7⟩ := heapOf8 hz h hq
  have hov : f_X8_isOver z (some (9, 0)) (nI q) g = some ((if nI (ncl V q 144) = 0 then 1 else 0), g2) := by
    simp only [f_X8_isOver, ick_X, a1, Option.bind_some, gI_X, a5]
    split
    · exact rtZ_1
    · exact rtZ_0
  obtain ⟨k, hk, rfl⟩ := in04 hb
  unfold tqF
  simp only [f_X8_quake, ick_X, isQuake8 h, Option.bind_some, if_neg hqi, tsw, gr_C h.b1, cRef, getQ h hq, ckc_X, gI_X, h.q3 hq, a1, a5, a6, a7, hov]
  rcases (by omega : k = 0 ∨ k = 1 ∨ k = 2 ∨ k = 3 ∨ k = 4) with rfl | rfl | rfl | rfl | rfl
  · exact ⟨g, by rw [if_pos (by decide), if_pos (by decide)], Ch.rf _ _, h⟩
  · exact ⟨g2, by rw [if_neg (by decide), if_pos (by decide), if_neg (by decide), if_pos (by decide)], a2, a3⟩
  · exact ⟨g2, by rw [if_neg (by decide), if_neg (by decide), if_pos (by decide), if_neg (by decide), if_neg (by decide), if_pos (by decide)], a2, a3⟩
  · exact ⟨g2, by rw [if_neg (by decide), if_neg (by decide), if_neg (by decide), if_pos (by decide), if_neg (by decide), if_neg (by decide), if_neg (by decide), if_pos (by decide)], a2, a3⟩
  · refine ⟨g2, ?_, a2, a3⟩
    simp only [show (nI 4 = 0) = False from by simp; decide, show (nI 4 = 1) = False from by simp; decide, show (nI 4 = 2) = False from by simp; decide, show (nI 4 = 3) = False from by simp; decide, show (nI 4 = 4) = True from by simp; decide, if_true, if_false]
    by_cases e : nI (ncl V q 144) = 0
    · simp only [if_pos e]; rw [if_neg (by decide)]
    · simp only [if_neg e]; rw [if_pos trivial]
theorem op_quake (hz : 2000 ≤ z) (a b : Int32) : OP (fun g => f_X8_quake z (some (9, 0)) a b g) (fun g => f_X9_quake z (some (10, 0)) a b g) := by
  intro g V h hM0 _
  by_cases h1 : inB a 0 (V 10 20 - 1) = 0
  · refine op_same h hM0 (r := -1) ?_ ?_
    · simp only [f_X8_quake, ick_X, isQuake8 h, Option.bind_some, h1, if_true]
    · simp only [f_X9_quake, ick_M, isQuake9, Option.bind_some, h1, if_true]
  obtain ⟨q, hq, rfl⟩ := qkOf h h1
  by_cases h2 : inB b 0 4 = 0
  · obtain ⟨e0, e1, e2, e3, e4⟩ := in04n h2
    refine op_same h hM0 (r := -1) ?_ ?_
    · simp only [f_X8_quake, ick_X, isQuake8 h, Option.bind_some, if_neg h1, tsw, if_neg e0, if_neg e1, if_neg e2, if_neg e3, if_neg e4]
    · simp only [f_X9_quake, ick_M, isQuake9, Option.bind_some, if_neg h1, in9, h2, if_true]
  · obtain ⟨g2, a1, a2, a3⟩ := quake8 hz h hq h2
    obtain ⟨V2, b1, b2⟩ := tellsQ9 hz a3.s h.v hq b
    refine op_heap (a2.mm (by decide) hM0) (r := tqF V q b) a1 a3 ?_ b2
    simp only [f_X9_quake, ick_M, isQuake9, Option.bind_some, if_neg h1, in9, if_neg h2, b1]
theorem cell8_L {g : Hp} {V : VV} (hb : RC1 g.1) (hV : VI V) {q : Nat} (hq : q < nqk V) (hF : HF g (lo V q) (hi V q)) (i : Int32) : ∀ (m n k : Nat), m ≤ 144 → m < n → f_X0_cellAt_4_L z (some (1, 0)) i n (nI (144 - m)) (nI k) g = some (clS V q i m k, g)
  | m, 0, k, _, h => absurd h (Nat.not_lt_zero _)
  | 0, n + 1, k, _, _ => by
    show f_X0_cellAt_4_b z (some (1, 0)) i (f_X0_cellAt_4_L z (some (1, 0)) i n) (nI 144) (nI k) g = _
    unfold f_X0_cellAt_4_b
    rw [if_pos (by decide)]; rfl
  | m + 1, n + 1, k, h1, h2 => by
    show f_X0_cellAt_4_b z (some (1, 0)) i (f_X0_cellAt_4_L z (some (1, 0)) i n) (nI (144 - (m + 1))) (nI k) g = _
    unfold f_X0_cellAt_4_b clS
    rw [show 144 - (m + 1) = 143 - m by omega, show (144 : Int32) = nI 144 from rfl, if_neg (fun w => by have := (nI_leI (by omega) (by omega)).mp w; omega), ick_X, hs8 hb hF (bd_lo hV hq) (by omega)]
    simp only [Option.bind_some]
    have ih := fun k2 => cell8_L hb hV hq hF i m n k2 (by omega) (by omega)
    rw [show 144 - m = 143 - m + 1 by omega] at ih
    by_cases hh : lo V q (143 - m) ≤ hi V q (143 - m)
    · rw [if_pos hh, if_neg (by decide), if_pos hh, nI_1, nI_1]
      by_cases e : nI k = i
      · rw [if_pos e, if_pos e]
      · rw [if_neg e, if_neg e]; exact ih (k + 1)
    · rw [if_neg hh, if_pos rfl, if_neg hh, nI_1]; exact ih k
theorem cell9_L {g : Hp} {V V2 : VV} (h : SM g) (hV : VI V) {q : Nat} (hP : HP V q V2 144) (i p3 p1 : Int32) (hx : ¬ p3 ≤ i) : ∀ (m n k : Nat), m ≤ 144 → m < n → f_X9_cell_22_L z p3 (some (10, 0)) p1 i n (nI (144 - m)) (nI k) (wM g V2) = some (clS V q i m k, wM g V2)
  | m, 0, k, _, h => absurd h (Nat.not_lt_zero _)
  | 0, n + 1, k, _, _ => by
    show f_X9_cell_22_b z p3 (some (10, 0)) p1 i (f_X9_cell_22_L z p3 (some (10, 0)) p1 i n) (nI 144) (nI k) (wM g V2) = _
    unfold f_X9_cell_22_b
    rw [if_pos (by decide)]; rfl
  | m + 1, n + 1, k, h1, h2 => by
    show f_X9_cell_22_b z p3 (some (10, 0)) p1 i (f_X9_cell_22_L z p3 (some (10, 0)) p1 i n) (nI (144 - (m + 1))) (nI k) (wM g V2) = _
    unfold f_X9_cell_22_b clS
    rw [show 144 - (m + 1) = 143 - m by omega, show (144 : Int32) = nI 144 from rfl, if_neg (fun w => by have := (nI_leI (by omega) (by omega)).mp w; omega), if_neg hx, ick_M, has9 h hV.hv hP (by omega)]
    simp only [Option.bind_some]
    have ih := fun k2 => cell9_L h hV hP i p3 p1 hx m n k2 (by omega) (by omega)
    rw [show 144 - m = 143 - m + 1 by omega] at ih
    by_cases hh : lo V q (143 - m) ≤ hi V q (143 - m)
    · rw [if_pos hh, if_neg (by decide), if_pos hh, nI_1, nI_1]
      by_cases e : nI k = i
      · rw [if_pos e, if_pos e]
      · rw [if_neg e, if_neg e]; exact ih (k + 1)
    · rw [if_neg hh, if_pos rfl, if_neg hh, nI_1]; exact ih k
theorem ncl_mono {V : VV} {q : Nat} {a : Nat} : ∀ b, a ≤ b → ncl V q a ≤ ncl V q b
  | 0, h => by have : a = 0 := by omega
               subst this; exact Nat.le_refl _
  | b + 1, h => by
    by_cases e : a = b + 1
    · subst e; exact Nat.le_refl _
    · have := ncl_mono (V := V) (q := q) (a := a) b (by omega)
      conv => rhs; unfold ncl
      split <;> omega
theorem clS_no {V : VV} {q : Nat} {i : Int32} (hno : ∀ k, k < ncl V q 144 → nI k ≠ i) : ∀ m, m ≤ 144 → clS V q i m (ncl V q (144 - m)) = -9
  | 0, _ => rfl
  | m + 1, h => by
    unfold clS
    have e : ncl V q (144 - m) = if lo V q (143 - m) ≤ hi V q (143 - m) then ncl V q (143 - m) + 1 else ncl V q (143 - m) := by
      rw [show 144 - m = (143 - m) + 1 by omega]; rfl
    rw [show 144 - (m + 1) = 143 - m by omega]
    have ih := clS_no hno m (by omega)
    have hm := ncl_mono (V := V) (q := q) (a := 144 - m) 144 (by omega)
    by_cases hh : lo V q (143 - m) ≤ hi V q (143 - m)
    · rw [if_pos hh] at e ⊢
      rw [if_neg (hno _ (by omega)), ← e]; exact ih
    · rw [if_neg hh] at e ⊢
      rw [← e]; exact ih
theorem op_cell (hz : 2000 ≤ z) (a b : Int32) : OP (fun g => f_X8_cell z (some (9, 0)) a b g) (fun g => f_X9_cell z (some (10, 0)) a b g) := by
  intro g V h hM0 _
  by_cases h1 : inB a 0 (V 10 20 - 1) = 0
  · refine op_same h hM0 (r := -1) ?_ ?_
    · simp only [f_X8_cell, ick_X, isQuake8 h, Option.bind_some, h1, if_true]
    · simp only [f_X9_cell, ick_M, isQuake9, Option.bind_some, h1, if_true]
  obtain ⟨q, hq, rfl⟩ := qkOf h h1
  obtain ⟨g2, a1, a2, a3, a4, a5, a6, a7⟩ := heapOf8 hz h hq
  obtain ⟨V2, k1, k2, k3⟩ := setHeap9 hz a3.s h.v.hv q
  have hcl := ncl_le V q 144
  refine op_heap (a2.mm (by decide) hM0) (g2 := g2) (V2 := V2) (r := clS V q b 144 0) ?_ a3 ?_ k2
  · simp only [f_X8_cell, ick_X, isQuake8 h, Option.bind_some, if_neg h1, a1, f_X0_cellAt]
    have := cell8_L (z := z) a3.b1 h.v hq a4 b 144 z 0 (Nat.le_refl _) (by omega)
    rw [show (0 : Int32) = nI 0 from rfl, show nI (144 - 144) = nI 0 from rfl] at *
    rw [this]; rfl
  · simp only [f_X9_cell, ick_M, isQuake9, Option.bind_some, if_neg h1, k1]
    by_cases hx : nI (ncl V q 144) ≤ b
    · have e : f_X9_cell_22_L z (nI (ncl V q 144)) (some (10, 0)) (nI q) b z 0 0 (wM g2 V2) = some (-9, wM g2 V2) := by
        obtain ⟨n, rfl⟩ : ∃ n, z = n + 1 := ⟨z - 1, by omega⟩
        show f_X9_cell_22_b (n + 1) (nI (ncl V q 144)) (some (10, 0)) (nI q) b (f_X9_cell_22_L (n + 1) (nI (ncl V q 144)) (some (10, 0)) (nI q) b n) 0 0 (wM g2 V2) = _
        unfold f_X9_cell_22_b
        rw [if_neg (by decide), if_pos hx]
      rw [e]
      have := clS_no (V := V) (q := q) (i := b) (fun k hk e2 => by
        subst e2
        have := (nI_leI (by omega) (by omega)).mp hx
        omega) 144 (Nat.le_refl _)
      rw [show ncl V q (144 - 144) = 0 from rfl] at this
      rw [this]
    · have := cell9_L (z := z) a3.s h.v k3 b (nI (ncl V q 144)) (nI q) hx 144 z 0 (Nat.le_refl _) (by omega)
      rw [show nI (144 - 144) = 0 from rfl] at this
      exact this
end QUA
