section LAT
variable {z : Nat}
theorem comes9 (hz : 2000 ≤ z) {g : Hp} {V V2 : VV} (h : SM g) (hV : VI V) (hE : EqR V V2) {q t : Nat} (hq : q < nqk V) (ht : t < ntw V) (hP : HP V q V2 144) : f_X9_comes z (some (10, 0)) (nI t) 0 (wM g V2) = some (iI (cmF V q t 144), wM g V2) ∧ f_X9_comes z (some (10, 0)) (nI t) 1 (wM g V2) = some (iI (cxF V q t 144), wM g V2) := by
  have h1 := comes9_L hz h hV hE hq ht hP false z 0 (by omega) (by omega)
  have h2 := comes9_L hz h hV hE hq ht hP true z 0 (by omega) (by omega)
  simp only [Bool.false_eq_true, if_false, if_true] at h1 h2
  have e1 : iI (cmF V q t 0) = 1000000000 := by show iI 1000000000 = _; decide
  have e2 : iI (cxF V q t 0) = -1000000000 := by show iI (-1000000000) = _; decide
  rw [e1, show nI 0 = (0 : Int32) from rfl] at h1
  rw [e2, show nI 0 = (0 : Int32) from rfl] at h2
  constructor
  · unfold f_X9_comes
    rw [if_pos rfl]; simp only [Option.bind_some]; rw [h1]; rfl
  · unfold f_X9_comes
    rw [if_neg (by decide)]; simp only [Option.bind_some]; rw [h2]; rfl
theorem ear_L {g : Hp} {V : VV} (ht : TT g V) (hV : VI V) {q t : Nat} (hq : q < nqk V) (htw : t < ntw V) (hF : HF g (lo V q) (hi V q)) (p1 p2 : Int32) : ∀ (n v : Nat), v ≤ 144 → 144 - v < n → f_X8_earliestArrival_29_L z (nI (cT V t)) (some (1, 0)) (some (9, 0)) p1 p2 n (nI v) (iI (min 1000000 (cmF V q t v))) g = some (144, iI (min 1000000 (cmF V q t 144)), g) ∧ f_X8_latestArrival_30_L z (nI (cT V t)) (some (1, 0)) (some (9, 0)) p1 p2 n (nI v) (iI (max (-1000000) (cxF V q t v))) g = some (144, iI (max (-1000000) (cxF V q t 144)), g)
  | 0, v, _, h2 => absurd h2 (Nat.not_lt_zero _)
  | n + 1, v, h1, h2 => by
    show f_X8_earliestArrival_29_b z (nI (cT V t)) (some (1, 0)) (some (9, 0)) p1 p2 (f_X8_earliestArrival_29_L z (nI (cT V t)) (some (1, 0)) (some (9, 0)) p1 p2 n) (nI v) _ g = _ ∧ f_X8_latestArrival_30_b z (nI (cT V t)) (some (1, 0)) (some (9, 0)) p1 p2 (f_X8_latestArrival_30_L z (nI (cT V t)) (some (1, 0)) (some (9, 0)) p1 p2 n) (nI v) _ g = _
    unfold f_X8_earliestArrival_29_b f_X8_latestArrival_30_b
    rw [show (144 : Int32) = nI 144 from rfl]
    by_cases he : 144 ≤ v
    · have e : v = 144 := by omega
      rw [if_pos ((nI_leI (by omega) (by omega)).mpr he), if_pos ((nI_leI (by omega) (by omega)).mpr he)]
      subst e
      exact ⟨rfl, rfl⟩
    · have hv : v < 144 := by omega
      obtain ⟨i1, i2⟩ := ear_L ht hV hq htw hF p1 p2 n (v + 1) (by omega) (by omega)
      have h6 := hV.to htw
      obtain ⟨b1, b2, b3, b4, -⟩ := cm_b hV hq htw v (by omega)
      have hb := bd_lo hV hq v hv
      have htv := TV_b hV.hv.sl.2 hv h6.2
      have htv2 : nI (tv (slo V) v (cT V t)) = iI (TV V v (cT V t)) := by rw [nI_iI]; rfl
      rw [if_neg (fun w => he ((nI_leI (by omega) (by omega)).mp w)), if_neg (fun w => he ((nI_leI (by omega) (by omega)).mp w)), ick_X, hs8 ht.1 hF (bd_lo hV hq) hv]
      simp only [Option.bind_some]
      by_cases hh : lo V q v ≤ hi V q v
      · have hx : cxF V q t (v + 1) = max (cxF V q t v) (hi V q v + TV V v (cT V t)) := by simp [cxF, hh]
        have hm : cmF V q t (v + 1) = min (cmF V q t v) (lo V q v + TV V v (cT V t)) := by simp [cmF, hh]
        rw [if_pos hh, if_neg (by decide), if_neg (by decide)]
        simp only [gR_X, show gR g (1, 0) 0 = some (21, 0) from ht.1.1.2.2.1, show gR g (1, 0) 1 = some (22, 0) from ht.1.1.2.2.2, Option.bind_some, ald_X ht.1.2.2.1 (by decide) (by decide) hv (by decide), ald_X ht.1.2.2.2.1 (by decide) (by decide) hv (by decide), (hF v hv).1, (hF v hv).2, gr_C ht.1, cRef, ick_X, between8 ht hv h6.2, htv2, iI_add, nI_1]
        rw [imin_i (by omega) (by omega) (by omega) (by omega), imax_i (by omega) (by omega) (by omega) (by omega)]
        rw [hm, show min 1000000 (min (cmF V q t v) (lo V q v + TV V v (cT V t))) = min (min 1000000 (cmF V q t v)) (lo V q v + TV V v (cT V t)) by omega] at i1
        rw [hx, show max (-1000000) (max (cxF V q t v) (hi V q v + TV V v (cT V t))) = max (max (-1000000) (cxF V q t v)) (hi V q v + TV V v (cT V t)) by omega] at i2
        exact ⟨i1, i2⟩
      · rw [if_neg hh, if_pos rfl, if_pos rfl, nI_1]
        rw [show cmF V q t (v + 1) = cmF V q t v by simp [cmF, hh]] at i1
        rw [show cxF V q t (v + 1) = cxF V q t v by simp [cxF, hh]] at i2
        exact ⟨i1, i2⟩
theorem ear8 (hz : 2000 ≤ z) {g : Hp} {V : VV} (h : IN g V) {q t : Nat} (hq : q < nqk V) (ht : t < ntw V) (ho : ¬ ncl V q 144 = 0) : (∃ g2, f_X8_earliestArrival z (some (9, 0)) (nI t) (nI q) g = some (iI (cmF V q t 144), g2) ∧ Ch [1, 21, 22] g g2 ∧ IN g2 V) ∧ ∃ g2, f_X8_latestArrival z (some (9, 0)) (nI t) (nI q) g = some (iI (cxF V q t 144), g2) ∧ Ch [1, 21, 22] g g2 ∧ IN g2 V := by
  obtain ⟨g2, a1, a2, a3, a4, a5, a6, a7⟩ := heapOf8 hz h hq
  obtain ⟨l1, l2⟩ := ear_L (z := z) a3.tt h.v hq ht a4 (nI t) (nI q) z 0 (by omega) (by omega)
  obtain ⟨b1, b2, b3, b4, b5⟩ := cm_b h.v hq ht 144 (by omega)
  have b6 := b5 ho
  rw [show iI (min 1000000 (cmF V q t 0)) = 1000000 from by show iI (min 1000000 1000000000) = _; decide, show nI 0 = (0 : Int32) from rfl, show min 1000000 (cmF V q t 144) = cmF V q t 144 by omega] at l1
  rw [show iI (max (-1000000) (cxF V q t 0)) = -1000000 from by show iI (max (-1000000) (-1000000000)) = _; decide, show nI 0 = (0 : Int32) from rfl, show max (-1000000) (cxF V q t 144) = cxF V q t 144 by omega] at l2
  refine ⟨⟨g2, ?_, a2, a3⟩, ⟨g2, ?_, a2, a3⟩⟩
  · simp only [f_X8_earliestArrival, ick_X, a1, Option.bind_some, gr_C a3.b1, cRef, getT a3 ht, ckc_X, gI_X, a3.t0 ht, (h.v.to ht).1, l1]
  · simp only [f_X8_latestArrival, ick_X, a1, Option.bind_some, gr_C a3.b1, cRef, getT a3 ht, ckc_X, gI_X, a3.t0 ht, (h.v.to ht).1, l2]
theorem op_late (hz : 2000 ≤ z) (a b : Int32) : OP (fun g => f_X8_late z (some (9, 0)) a b g) (fun g => f_X9_late z (some (10, 0)) a b g) := by
  intro g V h hM0 _
  by_cases h1 : inB a 0 (V 10 9 - 1) = 0
  · refine op_same h hM0 (r := -1) ?_ ?_
    · simp only [f_X8_late, ick_X, isTown8 h, Option.bind_some, h1, if_true]
    · simp only [f_X9_late, ick_M, tq9, Option.bind_some, h1, if_true]
  by_cases h2 : inB b 0 (V 10 20 - 1) = 0
  · refine op_same h hM0 (r := -1) ?_ ?_
    · simp only [f_X8_late, ick_X, isTown8 h, isQuake8 h, Option.bind_some, if_neg h1, h2, if_true]
    · simp only [f_X9_late, ick_M, tq9, Option.bind_some, if_neg h1, h2, if_true]
  obtain ⟨t, ht, rfl⟩ := twOf h h1
  obtain ⟨q, hq, rfl⟩ := qkOf h h2
  obtain ⟨g2, a1, a2, a3⟩ := isOver8 hz h hq
  have hcl := ncl_le V q 144
  by_cases ho : ncl V q 144 = 0
  · obtain ⟨V2, k1, k2, k3⟩ := setHeap9 hz a3.s h.v.hv q
    refine op_heap (a2.mm (by decide) hM0) (g2 := g2) (V2 := V2) (r := -9) ?_ a3 ?_ k2
    · simp only [f_X8_late, ick_X, isTown8 h, isQuake8 h, Option.bind_some, if_neg h1, if_neg h2, a1, if_pos ho]
      rw [if_neg (by decide)]
    · simp only [f_X9_late, ick_M, tq9, Option.bind_some, if_neg h1, if_neg h2, k1, ho]
      rw [if_pos (by decide)]
  · have hnn : ¬ nI (ncl V q 144) = 0 := nI_ne0 (by omega) (by omega)
    obtain ⟨-, g3, c1, c2, c3⟩ := ear8 hz a3 hq ht ho
    have hmo : ∀ g4, SM g4 → ∃ V2, EqR V V2 ∧ f_X9_late z (some (10, 0)) (nI t) (nI q) (wM g4 V) = some ((if V 10 5 < iI (cxF V q t 144) then (if iI (cmF V q t 144) ≤ V 10 5 then 0 else 2) else 1), wM g4 V2) := fun g4 hs => by
      obtain ⟨V2, k1, k2, k3⟩ := setHeap9 hz hs h.v.hv q
      obtain ⟨m1, m2⟩ := comes9 hz hs h.v k2 hq ht k3
      refine ⟨V2, k2, ?_⟩
      simp only [f_X9_late, ick_M, tq9, Option.bind_some, if_neg h1, if_neg h2, k1, if_neg hnn, m1, m2, gi_M, k2 10 (by decide) (by decide)]
      repeat' split
      all_goals rfl
    by_cases hl : V 10 5 < iI (cxF V q t 144)
    · obtain ⟨⟨g4, d1, d2, d3⟩, -⟩ := ear8 hz c3 hq ht ho
      obtain ⟨V2, e1, e2⟩ := hmo g4 d3.s
      refine op_heap (d2.mm (by decide) (c2.mm (by decide) (a2.mm (by decide) hM0))) ?_ d3 e2 e1
      simp only [f_X8_late, ick_X, isTown8 h, isQuake8 h, Option.bind_some, if_neg h1, if_neg h2, a1, if_neg ho, c1, gi_C, c3.f10, if_pos hl, d1, d3.f10]
      rw [if_pos trivial]
      split <;> rfl
    · obtain ⟨V2, e1, e2⟩ := hmo g3 c3.s
      refine op_heap (c2.mm (by decide) (a2.mm (by decide) hM0)) ?_ c3 e2 e1
      simp only [f_X8_late, ick_X, isTown8 h, isQuake8 h, Option.bind_some, if_neg h1, if_neg h2, a1, if_neg ho, c1, gi_C, c3.f10, if_neg hl]
      rw [if_pos trivial]
theorem op_left (hz : 2000 ≤ z) (a b : Int32) : OP (fun g => f_X8_left z (some (9, 0)) a b g) (fun g => f_X9_left z (some (10, 0)) a b g) := by
  intro g V h hM0 _
  by_cases h1 : inB a 0 (V 10 9 - 1) = 0
  · refine op_same h hM0 (r := -1) ?_ ?_
    · simp only [f_X8_left, ick_X, isTown8 h, Option.bind_some, h1, if_true]
    · simp only [f_X9_left, ick_M, tq9, Option.bind_some, h1, if_true]
  by_cases h2 : inB b 0 (V 10 20 - 1) = 0
  · refine op_same h hM0 (r := -1) ?_ ?_
    · simp only [f_X8_left, ick_X, isTown8 h, isQuake8 h, Option.bind_some, if_neg h1, h2, if_true]
    · simp only [f_X9_left, ick_M, tq9, Option.bind_some, if_neg h1, h2, if_true]
  obtain ⟨t, ht, rfl⟩ := twOf h h1
  obtain ⟨q, hq, rfl⟩ := qkOf h h2
  obtain ⟨g2, a1, a2, a3⟩ := isOver8 hz h hq
  have hcl := ncl_le V q 144
  by_cases ho : ncl V q 144 = 0
  · obtain ⟨V2, k1, k2, k3⟩ := setHeap9 hz a3.s h.v.hv q
    refine op_heap (a2.mm (by decide) hM0) (g2 := g2) (V2 := V2) (r := -9) ?_ a3 ?_ k2
    · simp only [f_X8_left, ick_X, isTown8 h, isQuake8 h, Option.bind_some, if_neg h1, if_neg h2, a1, if_pos ho]
      rw [if_neg (by decide)]
    · simp only [f_X9_left, ick_M, tq9, Option.bind_some, if_neg h1, if_neg h2, k1, ho]
      rw [if_pos (by decide)]
  · have hnn : ¬ nI (ncl V q 144) = 0 := nI_ne0 (by omega) (by omega)
    obtain ⟨⟨g3, c1, c2, c3⟩, -⟩ := ear8 hz a3 hq ht ho
    obtain ⟨V2, k1, k2, k3⟩ := setHeap9 hz c3.s h.v.hv q
    obtain ⟨m1, -⟩ := comes9 hz c3.s h.v k2 hq ht k3
    obtain ⟨b1, b2, -⟩ := cm_b h.v hq ht 144 (by omega)
    have hno := h.v.hv.no
    refine op_heap (c2.mm (by decide) (a2.mm (by decide) hM0)) (g2 := g3) (V2 := V2) (r := imax 0 (iI (cmF V q t 144) - V 10 5)) ?_ c3 ?_ k2
    · simp only [f_X8_left, ick_X, isTown8 h, isQuake8 h, Option.bind_some, if_neg h1, if_neg h2, a1, if_neg ho, c1, gi_C, c3.f10]
      rw [if_pos trivial]
    · simp only [f_X9_left, ick_M, tq9, Option.bind_some, if_neg h1, if_neg h2, k1, if_neg hnn, m1, gi_M, k2 10 (by decide) (by decide)]
      rw [hno.1, nI_iI, iI_sub, show (0 : Int32) = iI 0 from by decide, imax_i (by omega) (by omega) (by omega) (by omega)]
      by_cases c : cmF V q t 144 ≤ nw V
      · rw [if_pos ((iI_le (by omega) (by omega) (by omega) (by omega)).mpr c), show max 0 (cmF V q t 144 - (nw V : Int)) = 0 by omega]
      · rw [if_neg (fun w => c ((iI_le (by omega) (by omega) (by omega) (by omega)).mp w)), show max 0 (cmF V q t 144 - (nw V : Int)) = cmF V q t 144 - nw V by omega]
/-! bits of levels -/
theorem bt_g : ∀ (a b c d : Bool), ∀ l, 1 ≤ l → l < 5 → (((nI (bt (fun k => if k = 1 then a else if k = 2 then b else if k = 3 then c else d)) >>> (nI l &&& 31)) &&& 1 = 1) ↔ (if l = 1 then a else if l = 2 then b else if l = 3 then c else d) = true) := by
  intro a b c d l h1 h2
  rcases (by omega : l = 1 ∨ l = 2 ∨ l = 3 ∨ l = 4) with rfl | rfl | rfl | rfl <;> cases a <;> cases b <;> cases c <;> cases d <;> decide
theorem bt_x (f : Nat → Bool) : bt f = bt (fun k => if k = 1 then f 1 else if k = 2 then f 2 else if k = 3 then f 3 else f 4) := rfl
theorem bt_get (f : Nat → Bool) {l : Nat} (h1 : 1 ≤ l) (h2 : l < 5) : ((nI (bt f) >>> (nI l &&& 31)) &&& 1 = 1) ↔ f l = true := by
  rw [bt_x, bt_g _ _ _ _ l h1 h2]
  rcases (by omega : l = 1 ∨ l = 2 ∨ l = 3 ∨ l = 4) with rfl | rfl | rfl | rfl <;> simp
theorem bt_s : ∀ (a b c d : Bool), ∀ l, 1 ≤ l → l < 5 → nI (bt (fun k => if k = 1 then a else if k = 2 then b else if k = 3 then c else d)) ||| (1 <<< (nI l &&& 31)) = nI (bt (fun k => if k = l then true else if k = 1 then a else if k = 2 then b else if k = 3 then c else d)) := by
  intro a b c d l h1 h2
  rcases (by omega : l = 1 ∨ l = 2 ∨ l = 3 ∨ l = 4) with rfl | rfl | rfl | rfl <;> cases a <;> cases b <;> cases c <;> cases d <;> decide
theorem bt_set (f : Nat → Bool) {l : Nat} (h1 : 1 ≤ l) (h2 : l < 5) : nI (bt f) ||| (1 <<< (nI l &&& 31)) = nI (bt (fun k => if k = l then true else f k)) := by
  rw [bt_x, bt_s _ _ _ _ l h1 h2]
  rcases (by omega : l = 1 ∨ l = 2 ∨ l = 3 ∨ l = 4) with rfl | rfl | rfl | rfl <;> rfl
end LAT
