section LAT
variable {z : Nat}
theorem ear_L {g : Hp} {V : VV} (ht : TT g V) (hV : VI V) {q t : Nat} (hq : q < nqk V) (htw : t < ntw V) (hF : HF g (lo V q) (hi V q)) (p1 p2 : Int32) : ∀ (n v : Nat), v ≤ 144 → 144 - v < n → f_X8_earliestArrival_29_L z (nI (cT V t)) (some (1, 0)) (some (9, 0)) p1 p2 n (nI v) (iI (min 1000000 (cmF V q t v))) g = some (144, iI (min 1000000 (cmF V q t 144)), g) ∧ f_X8_latestArrival_30_L z (nI (cT V t)) (some (1, 0)) (some (9, 0)) p1 p2 n (nI v) (iI (max (-1000000) (cxF V q t v))) g = some (144, iI (max (-1000000) (cxF V q t 144)), g)
  | 0, v, _, h2 => absurd h2 (Nat.not_lt_zero _)
  | n + 1, v, h1, h2 => by
    show f_X8_earliestArrival_29_b z (nI (cT V t)) (some (1, 0)) (some (9, 0)) p1 p2 (f_X8_earliestArrival_29_L z (nI (cT V t)) (some (1, 0)) (some (9, 0)) p1 p2 n) (nI v) _ g = _ ∧ f_X8_latestArrival_30_b z (nI (cT V t)) (some (1, 0)) (some (9, 0)) p1 p2 (f_X8_latestArrival_30_L z (nI (cT V t)) (some (1, 0)) (some (9, 0)) p1 p2 n) (nI v) _ g = _
    unfold f_X8_earliestArrival_29_b f_X8_latestArrival_30_b
    rw [show (144 : Int32) = nI 144 from rfl]
    by_cases he : 144 ≤ v
    · have e : v = 144 := by omega
      rw [if_pos ((nI_leI (by omega) (by omega)).mpr he), if_pos ((nI_leI (by omega) (by omega)).mpr he)]
      subst e
      exact ⟨rfl, rfl⟩
    · have hv : v < 144 := by omega
      obtain ⟨i1, i2⟩ := ear_L ht hV hq htw hF p1 p2 n (v + 1) (by omega) (by omega)
      have h6 := hV.to htw
      obtain ⟨b1, b2, b3, b4, -⟩ := cm_b hV hq htw v (by omega)
      have hb := bd_lo hV hq v hv
      have htv := TV_b hV.hv.sl.2 hv h6.2
      have htv2 : nI (tv (slo V) v (cT V t)) = iI (TV V v (cT V t)) := by rw [nI_iI]; rfl
      rw [if_neg (fun w => he ((nI_leI (by omega) (by omega)).mp w)), if_neg (fun w => he ((nI_leI (by omega) (by omega)).mp w)), ick_X, hs8 ht.1 hF (bd_lo hV hq) hv]
      simp only [Option.bind_some]
      by_cases hh : lo V q v ≤ hi V q v
      · have hx : cxF V q t (v + 1) = max (cxF V q t v) (hi V q v + TV V v (cT V t)) := by simp [cxF, hh]
        have hm : cmF V q t (v + 1) = min (cmF V q t v) (lo V q v + TV V v (cT V t)) := by simp [cmF, hh]
        rw [if_pos hh, if_neg (by decide), if_neg (by decide)]
        simp only [gR_X, show gR g (1, 0) 0 = some (21, 0) from ht.1.1.2.2.1, show gR g (1, 0) 1 = some (22, 0) from ht.1.1.2.2.2, Option.bind_some, ald_X ht.1.2.2.1 (by decide) (by decide) hv (by decide), ald_X ht.1.2.2.2.1 (by decide) (by decide) hv (by decide), (hF v hv).1, (hF v hv).2, gr_C ht.1, cRef, ick_X, between8 ht hv h6.2, htv2, iI_add, nI_1]
        rw [imin_i (by omega) (by omega) (by omega) (by omega), imax_i (by omega) (by omega) (by omega) (by omega)]
        rw [hm, show min 1000000 (min (cmF V q t v) (lo V q v + TV V v (cT V t))) = min (min 1000000 (cmF V q t v)) (lo V q v + TV V v (cT V t)) by omega] at i1
        rw [hx, show max (-1000000) (max (cxF V q t v) (hi V q v + TV V v (cT V t))) = max (max (-1000000) (cxF V q t v)) (hi V q v + TV V v (cT V t)) by omega] at i2
        exact ⟨i1, i2⟩
      · rw [if_neg hh, if_pos rfl, if_pos rfl, nI_1]
        rw [show cmF V q t (v + 1) = cmF V q t v by simp [cmF, hh]] at i1
        rw [show cxF V q t (v + 1) = cxF V q t v by simp [cxF, hh]] at i2
        exact ⟨i1, i2⟩
theorem ear8 (hz : 2000 ≤ z) {g : Hp} {V : VV} (h : IN g V) {q t : Nat} (hq : q < nqk V) (ht : t < ntw V) (ho : ¬ ncl V q 144 = 0) : (∃ g2, f_X8_earliestArrival z (some (9, 0)) (nI t) (nI q) g = some (iI (cmF V q t 144), g2) ∧ Ch [1, 21, 22] g g2 ∧ IN g2 V) ∧ ∃ g2, f_X8_latestArrival z (some (9, 0)) (nI t) (nI q) g = some (iI (cxF V q t 144), g2) ∧ Ch [1, 21, 22] g g2 ∧ IN g2 V := by
  obtain ⟨g2, a1, a2, a3, a4, a5, a6, a7⟩ := heapOf8 hz h hq
  obtain ⟨l1, l2⟩ := ear_L (z := z) a3.tt h.v hq ht a4 (nI t) (nI q) z 0 (by omega) (by omega)
  obtain ⟨b1, b2, b3, b4, b5⟩ := cm_b h.v hq ht 144 (by omega)
  have b6 := b5 ho
  rw [show iI (min 1000000 (cmF V q t 0)) = 1000000 from by show iI (min 1000000 1000000000) = _; decide, show nI 0 = (0 : Int32) from rfl, show min 1000000 (cmF V q t 144) = cmF V q t 144 by omega] at l1
  rw [show iI (max (-1000000) (cxF V q t 0)) = -1000000 from by show iI (max (-1000000) (-1000000000)) = _; decide, show nI 0 = (0 : Int32) from rfl, show max (-1000000) (cxF V q t 144) = cxF V q t 144 by omega] at l2
  refine ⟨⟨g2, ?_, a2, a3⟩, ⟨g2, ?_, a2, a3⟩⟩
  · simp only [f_X8_earliestArrival, ick_X, a1, Option.bind_some, gr_C a3.b1, cRef, getT a3 ht, ckc_X, gI_X, a3.t0 ht, (h.v.to ht).1, l1]
  · simp only [f_X8_latestArrival, ick_X, a1, Option.bind_some, gr_C a3.b1, cRef, getT a3 ht, ckc_X, gI_X, a3.t0 ht, (h.v.to ht).1, l2]
theorem late8 (hz : 2000 ≤ z) {g : Hp} {V : VV} (h : IN g V) {t q : Nat} (ht : t < ntw V) (hq : q < nqk V) (ho : ¬ ncl V q 144 = 0) : ∃ g2, f_X8_late z (some (9, 0)) (nI t) (nI q) g = some ((if V 10 5 < iI (cxF V q t 144) then (if iI (cmF V q t 144) ≤ V 10 5 then 0 else 2) else 1), g2) ∧ Ch [1, 21, 22] g g2 ∧ IN g2 V := by
  have h1 : ¬ inB (nI t) 0 (V 10 9 - 1) = 0 := by have := h.v.tw; rw [this.1, inB_in ht (by omega)]; decide
  have h2 : ¬ inB (nI q) 0 (V 10 20 - 1) = 0 := by have := h.v.qk; rw [this.1, inB_in hq (by omega)]; decide
  obtain ⟨g2, a1, a2, a3⟩ := isOver8 hz h hq
  obtain ⟨-, g3, c1, c2, c3⟩ := ear8 hz a3 hq ht ho
  by_cases hl : V 10 5 < iI (cxF V q t 144)
  · obtain ⟨⟨g4, d1, d2, d3⟩, -⟩ := ear8 hz c3 hq ht ho
    refine ⟨g4, ?_, a2.tr (c2.tr d2), d3⟩
    simp only [f_X8_late, ick_X, isTown8 h, isQuake8 h, Option.bind_some, if_neg h1, if_neg h2, a1, if_neg ho, c1, gi_C, c3.f10, if_pos hl, d1, d3.f10]
    rw [if_pos trivial]
    split <;> rfl
  · refine ⟨g3, ?_, a2.tr c2, c3⟩
    simp only [f_X8_late, ick_X, isTown8 h, isQuake8 h, Option.bind_some, if_neg h1, if_neg h2, a1, if_neg ho, c1, gi_C, c3.f10, if_neg hl]
    rw [if_pos trivial]
theorem left8 (hz : 2000 ≤ z) {g : Hp} {V : VV} (h : IN g V) {t q : Nat} (ht : t < ntw V) (hq : q < nqk V) (ho : ¬ ncl V q 144 = 0) : ∃ g2, f_X8_left z (some (9, 0)) (nI t) (nI q) g = some (imax 0 (iI (cmF V q t 144) - V 10 5), g2) ∧ Ch [1, 21, 22] g g2 ∧ IN g2 V := by
  have h1 : ¬ inB (nI t) 0 (V 10 9 - 1) = 0 := by have := h.v.tw; rw [this.1, inB_in ht (by omega)]; decide
  have h2 : ¬ inB (nI q) 0 (V 10 20 - 1) = 0 := by have := h.v.qk; rw [this.1, inB_in hq (by omega)]; decide
  obtain ⟨g2, a1, a2, a3⟩ := isOver8 hz h hq
  obtain ⟨⟨g3, c1, c2, c3⟩, -⟩ := ear8 hz a3 hq ht ho
  refine ⟨g3, ?_, a2.tr c2, c3⟩
  simp only [f_X8_left, ick_X, isTown8 h, isQuake8 h, Option.bind_some, if_neg h1, if_neg h2, a1, if_neg ho, c1, gi_C, c3.f10]
  rw [if_pos trivial]
/-! bits of levels -/
end LAT
