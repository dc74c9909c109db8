/-! the law's second loop: a pick, and what is asked behind it -/
def LQ (X : Option (Int32 × Hp)) : Prop := ∃ g1, X = some (1, g1) ∧ gc g1 ≤ 600000 ∧ gs g1 ≤ 7302250
def cP (P : Nat → Bool) : Nat → Nat
  | 0 => 0
  | k + 1 => if P k = true then cP P k + 1 else cP P k
theorem cP_all {P : Nat → Bool} : ∀ n, (∀ i, i < n → P i = true) → cP P n = n
  | 0, _ => rfl
  | n + 1, h => by
    unfold cP
    rw [if_pos (h n (by omega)), cP_all n (fun i hi => h i (by omega))]
theorem cP_le {P : Nat → Bool} : ∀ n, cP P n ≤ n
  | 0 => Nat.le_refl _
  | n + 1 => by
    have := cP_le (P := P) n
    unfold cP
    split <;> omega
theorem cP_lt {P : Nat → Bool} {s : Nat} (hP : P s = false) : ∀ n, s < n → cP P n < n
  | 0, h => absurd h (Nat.not_lt_zero _)
  | n + 1, h => by
    have h1 := cP_le (P := P) n
    unfold cP
    by_cases e : s = n
    · subst e
      rw [if_neg (by rw [hP]; decide)]; omega
    · have := cP_lt hP n (by omega)
      split <;> omega
theorem cP_same {P P2 : Nat → Bool} : ∀ n, (∀ i, i < n → P2 i = P i) → cP P2 n = cP P n
  | 0, _ => rfl
  | n + 1, h => by
    unfold cP
    rw [h n (by omega), cP_same n (fun i hi => h i (by omega))]
theorem cP_add {P : Nat → Bool} {s : Nat} (hP : P s = false) : ∀ n, s < n → cP (fun i => P i || decide (i = s)) n = cP P n + 1
  | 0, h => absurd h (Nat.not_lt_zero _)
  | n + 1, h => by
    unfold cP
    by_cases e : s = n
    · subst e
      have e1 : cP (fun i => P i || decide (i = s)) s = cP P s := cP_same s (fun i hi => by
        have : ¬ i = s := by omega
        simp [this])
      rw [e1, if_pos (by simp), if_neg (by rw [hP]; decide)]
    · have ih := cP_add hP n (by omega)
      have en : ¬ n = s := fun w => e w.symm
      have e2 : ((fun i => P i || decide (i = s)) n = true) ↔ P n = true := by simp [en]
      rw [ih]
      by_cases hn : P n = true
      · rw [if_pos (e2.mpr hn), if_pos hn]
      · rw [if_neg (fun w => hn (e2.mp w)), if_neg hn]
section PCK
variable {z : Nat}
theorem tq0 {V : VV} : tqF V 0 (nI 0) = nI (cntF V 0 (npk V)) := by unfold tqF; rw [if_pos (by decide)]
theorem tq1 {V : VV} : tqF V 0 (nI 1) = nI (ncl V 0 144) := by unfold tqF; rw [if_neg (by decide), if_pos (by decide)]
theorem tq4 {V : VV} (h : 0 < ncl V 0 144) : tqF V 0 (nI 4) = 0 := by
  have := ncl_le V 0 144
  unfold tqF
  rw [if_neg (by decide), if_neg (by decide), if_neg (by decide), if_neg (by decide), if_neg (nI_ne0 h (by omega))]
variable {n e q c0 b0 : Nat} {at' cm : Nat → Nat} {V : VV} {P : Nat → Bool}
theorem holdsT (hz : 2000 ≤ z) {g : Hp} (hk : OKc n e q c0 b0 at' cm) (h : IN g V) (hq : 0 < nqk V) (hG : GD n e q at' cm V P) : ∃ g2, f_X8_holds z (some (9, 0)) 0 (nI c0) (nI b0) g = some (1, g2) ∧ Ch [1, 21, 22] g g2 ∧ IN g2 V := by
  have hc0 := hk.2.2.2.2.2.1
  have hb0 := hk.2.2.2.2.2.2.2.1
  obtain ⟨g2, a1, a2, a3⟩ := holds8 hz h (q := 0) hq hc0 (nI b0)
  obtain ⟨i1, i2⟩ := hG.inn hk
  obtain ⟨d1, d2, d3, d4⟩ := bd_lo h.v hq c0 hc0
  refine ⟨g2, ?_, a2, a3⟩
  have e1 : inB (nI b0) (iI (lo V 0 c0)) (iI (hi V 0 c0)) = 1 := by
    unfold inB
    rw [nI_iI, if_neg (fun w => by have := (iI_lt (by omega) (by omega) (by omega) (by omega)).mp w; omega), if_neg (fun w => by have := (iI_lt (by omega) (by omega) (by omega) (by omega)).mp w; omega)]
  rw [e1, if_neg (by decide)] at a1
  exact a1
/-- what left() and late() told can't be wrong together -/
theorem ifs {lf lt : Int32} {X F1 F2 F3 F4 F5 : Option (Int32 × Hp)} (h1 : ¬ lf < 0) (h2 : ¬ lt < 0) (h3 : lt = 2 → ¬ lf = 0) (h4 : lt = 1 → lf ≤ 0) (hX : LQ X) : LQ (if lf < 0 then F1 else (if lt < 0 then F2 else (if lt = 2 then (if lf = 0 then F3 else (if lt = 1 then (if lf ≤ 0 then X else F4) else X)) else (if lt = 1 then (if lf ≤ 0 then X else F5) else X)))) := by
  rw [if_neg h1, if_neg h2]
  by_cases e2 : lt = 2
  · rw [if_pos e2, if_neg (h3 e2), if_neg (by rw [e2]; decide)]; exact hX
  · rw [if_neg e2]
    by_cases e1 : lt = 1
    · rw [if_pos e1, if_pos (h4 e1)]; exact hX
    · rw [if_neg e1]; exact hX
theorem checks (hz : 2000 ≤ z) {g : Hp} {p bf : Nat} (hk : OKc n e q c0 b0 at' cm) (h : IN g V) (hq : nqk V = 1) (htw : ntw V = 1) (hG : GD n e q at' cm V P) (hp : npk V = p + 1) (hbf : ncl V 0 144 ≤ bf) (hb2 : bf ≤ 145) {K : Int32 → Hp → Option (Int32 × Hp)} (hrec : ∀ g9, IN g9 V → Ch [1, 21, 22] g g9 → LQ (K (nI (ncl V 0 144)) g9)) : LQ ((ick (some (9, 0)) 9 (f_X8_quake z (some (9, 0)) 0 1 g)).bind fun q32 =>
          (ick (some (9, 0)) 9 (f_X8_quake z (some (9, 0)) 0 0 q32.2)).bind fun q33 =>
          if q33.1 = (nI p + 1) then (if q32.1 < 1 then (some (0, q33.2))
            else (if nI bf < q32.1 then (some (0, q33.2))
              else ((ick (some (9, 0)) 9 (f_X8_holds z (some (9, 0)) 0 (nI c0) (nI b0) q33.2)).bind fun q34 =>
                if q34.1 = 1 then ((ick (some (9, 0)) 9 (f_X8_quake z (some (9, 0)) 0 4 q34.2)).bind fun q35 =>
                  if q35.1 = 0 then ((ick (some (9, 0)) 9 (f_X8_count z (some (9, 0)) 3 q35.2)).bind fun q36 =>
                    if q36.1 = 1 then ((ick (some (9, 0)) 9 (f_X8_left z (some (9, 0)) 0 0 q36.2)).bind fun q37 =>
                      (ick (some (9, 0)) 9 (f_X8_late z (some (9, 0)) 0 0 q37.2)).bind fun q38 =>
                      if q37.1 < 0 then (some (0, q38.2))
                      else (if q38.1 < 0 then (some (0, q38.2))
                        else (if q38.1 = 2 then (if q37.1 = 0 then (some (0, q38.2))
                            else (if q38.1 = 1 then (if q37.1 ≤ 0 then (K q32.1 q38.2)
                                else (some (0, q38.2)))
                              else (K q32.1 q38.2)))
                          else (if q38.1 = 1 then (if q37.1 ≤ 0 then (K q32.1 q38.2)
                              else (some (0, q38.2)))
                            else (K q32.1 q38.2)))))
                    else (some (0, q36.2)))
                  else (some (0, q35.2)))
                else (some (0, q34.2)))))
          else (some (0, q33.2))) := by
  have hq0 : 0 < nqk V := by omega
  have ht0 : 0 < ntw V := by omega
  have hpos := hG.pos hk
  have hle := ncl_le V 0 144
  obtain ⟨g4, a1, a2, a3⟩ := quake8 hz h hq0 (b := nI 1) (by decide)
  obtain ⟨g5, b1, b2, b3⟩ := quake8 hz a3 hq0 (b := nI 0) (by decide)
  obtain ⟨g6, c1, c2, c3⟩ := holdsT hz hk b3 hq0 hG
  obtain ⟨g7, d1, d2, d3⟩ := quake8 hz c3 hq0 (b := nI 4) (by decide)
  obtain ⟨g8, e1, e2, e3⟩ := left8 hz d3 ht0 hq0 (by omega)
  obtain ⟨g9, f1, f2, f3⟩ := late8 hz e3 ht0 hq0 (by omega)
  rw [tq1] at a1
  rw [tq0, cnt_all (npk V) (fun j hj => (hG.2.2.2.2.1 j hj).1), hp] at b1
  rw [tq4 hpos] at d1
  have a1' : f_X8_quake z (some (9, 0)) 0 1 g = some (nI (ncl V 0 144), g4) := a1
  have b1' : f_X8_quake z (some (9, 0)) 0 0 g4 = some (nI (p + 1), g5) := b1
  have d1' : f_X8_quake z (some (9, 0)) 0 4 g6 = some (0, g7) := d1
  have e1' : f_X8_left z (some (9, 0)) 0 0 g7 = some (imax 0 (iI (cmF V 0 0 144) - V 10 5), g8) := e1
  have f1' : f_X8_late z (some (9, 0)) 0 0 g8 = some ((if V 10 5 < iI (cxF V 0 0 144) then (if iI (cmF V 0 0 144) ≤ V 10 5 then 0 else 2) else 1), g9) := f1
  have hno := h.v.hv.no
  obtain ⟨m1, m2, m3, m4, m5⟩ := cm_b h.v hq0 ht0 144 (by omega)
  obtain ⟨m6, m7⟩ := m5 (by omega)
  have m8 := cm_cx (V := V) (q := 0) (t := 0) 144 (by omega)
  have hp60 := h.v.hv.np.2
  have L1 : ¬ imax 0 (iI (cmF V 0 0 144) - V 10 5) < 0 := by
    rw [hno.1, nI_iI, iI_sub, show (0 : Int32) = iI 0 from by decide, imax_i (by omega) (by omega) (by omega) (by omega)]
    exact fun w => by have := (iI_lt (by omega) (by omega) (by omega) (by omega)).mp w; omega
  have L2 : ¬ (if V 10 5 < iI (cxF V 0 0 144) then (if iI (cmF V 0 0 144) ≤ V 10 5 then (0 : Int32) else 2) else 1) < 0 := by
    split
    · split <;> decide
    · decide
  have L3 : (if V 10 5 < iI (cxF V 0 0 144) then (if iI (cmF V 0 0 144) ≤ V 10 5 then (0 : Int32) else 2) else 1) = 2 → ¬ imax 0 (iI (cmF V 0 0 144) - V 10 5) = 0 := fun w => by
    rw [hno.1, nI_iI] at w ⊢
    have w1 : iI (nw V) < iI (cxF V 0 0 144) := by
      by_cases x : iI (nw V) < iI (cxF V 0 0 144)
      · exact x
      · rw [if_neg x] at w; exact absurd w (by decide)
    rw [if_pos w1] at w
    have w2 : ¬ iI (cmF V 0 0 144) ≤ iI (nw V) := fun x => by rw [if_pos x] at w; exact absurd w (by decide)
    have w3 : (nw V : Int) < cmF V 0 0 144 := by
      rcases Int.lt_or_le (nw V : Int) (cmF V 0 0 144) with x | x
      · exact x
      · exact absurd ((iI_le (by omega) (by omega) (by omega) (by omega)).mpr x) w2
    rw [iI_sub, show (0 : Int32) = iI 0 from by decide, imax_i (by omega) (by omega) (by omega) (by omega)]
    exact fun x => by have := (iI_eq (by omega) (by omega) (by omega) (by omega)).mp x; omega
  have L4 : (if V 10 5 < iI (cxF V 0 0 144) then (if iI (cmF V 0 0 144) ≤ V 10 5 then (0 : Int32) else 2) else 1) = 1 → imax 0 (iI (cmF V 0 0 144) - V 10 5) ≤ 0 := fun w => by
    rw [hno.1, nI_iI] at w ⊢
    have w1 : ¬ iI (nw V) < iI (cxF V 0 0 144) := fun x => by
      rw [if_pos x] at w
      split at w <;> exact absurd w (by decide)
    have w3 : cxF V 0 0 144 ≤ (nw V : Int) := by
      rcases Int.lt_or_le (nw V : Int) (cxF V 0 0 144) with x | x
      · exact absurd ((iI_lt (by omega) (by omega) (by omega) (by omega)).mpr x) w1
      · exact x
    rw [iI_sub, show (0 : Int32) = iI 0 from by decide, imax_i (by omega) (by omega) (by omega) (by omega)]
    exact (iI_le (by omega) (by omega) (by omega) (by omega)).mpr (by omega)
  simp only [ick_X, a1', ob]
  rw [b1', ob]
  rw [if_pos (nI_1 p).symm, if_neg (fun w => by have := (nI_ltI (b := 1) (by omega) (by omega)).mp w; omega), if_neg (fun w => by have := (nI_ltI (by omega) (by omega)).mp w; omega)]
  simp only [c1, ob]
  rw [if_pos trivial, d1', ob]
  rw [if_pos (show ((0 : Int32), g7).1 = 0 from rfl), (count8 d3).2, ob]
  rw [if_pos (show (nI (nqk V), g7).1 = 1 by rw [hq]; rfl), e1', ob, f1', ob]
  exact ifs L1 L2 L3 L4 (hrec g9 f3 (a2.tr (b2.tr (c2.tr (d2.tr (e2.tr f2))))))
/-- the pick -/
theorem pickL (hz : 2000 ≤ z) {g : Hp} {p bf s : Nat} (hk : OKc n e q c0 b0 at' cm) (h : IN g (nwV V (cm s))) (hG : GD n e q at' cm V P) (hp : npk V = p) (hp8 : p < 8) (hq : nqk V = if p = 0 then 0 else 1) (hs : s < n) (hP : P s = false) (hmin : ∀ i, i < n → P i = false → cm s ≤ cm i) (hbf : p = 0 → bf = 145) (hbf2 : 0 < p → bf = ncl V 0 144) : ∃ g2 V2, f_X8_pick z (some (9, 0)) (nI s) (nI (cm s)) 1000 g = some ((if p = 0 then 10 else 0), g2) ∧ IN g2 V2 ∧ Fr PCl g g2 ∧ GD n e q at' cm V2 (fun i => P i || decide (i = s)) ∧ npk V2 = p + 1 ∧ nqk V2 = 1 ∧ ntw V2 = ntw V ∧ nw V2 = cm s ∧ ncl V2 0 144 ≤ bf := by
  have hn8 := hk.1
  have hc := hk.le hs
  have hG1 := hG.later (t := cm s) (by omega) hmin
  have e1 : npk (nwV V (cm s)) = p := hp
  have e2 : nqk (nwV V (cm s)) = if p = 0 then 0 else 1 := hq
  have e3 : nw (nwV V (cm s)) = cm s := nwV_no (by omega)
  have e4 : nst (nwV V (cm s)) = n := hG1.1
  obtain ⟨k1, k2⟩ := pick8 hz h (s := s) (t := cm s) (x := 1000) (by rw [e4]; exact hs) (by rw [e3]; exact Nat.le_refl _) (by decide) (by decide) (by rw [e1]; omega)
  by_cases h0 : p = 0
  · rw [if_pos h0] at e2 ⊢
    obtain ⟨g2, a1, a2, a3⟩ := k1 (by rw [e2]; rfl) (by omega)
    rw [e2] at a1 a2
    have hGo := hG1.opened
    have no1 : npk (opV (nwV V (cm s))) = p := op_w.np.trans e1
    have hGp := hGo.picked (s := s) (t := cm s) (x := nI 1000) hn8 hs rfl (by omega) (by omega) (op_w.no.trans e3)
    have hle := ncl_le (apV (opV (nwV V (cm s))) s (cm s) (nI 1000) (nI 0)) 0 144
    refine ⟨g2, _, a1, a2, a3, hGp, ?_, ?_, ?_, ?_, ?_⟩
    · rw [ap_np (by omega), no1]
    · rw [ap_nq, op_nq (by omega), e2]
    · rw [ap_nt, ntw_e (op_ev.2 9 (by decide))]; rfl
    · rw [ap_no, op_w.no, e3]
    · rw [hbf h0]; omega
  · rw [if_neg h0] at e2 ⊢
    have hGp0 := hG1.picked (s := s) (t := cm s) (x := 0) hn8 hs rfl (by omega) (by omega) e3
    have hGp := hG1.picked (s := s) (t := cm s) (x := nI 1000) hn8 hs rfl (by omega) (by omega) e3
    have hb : tkB (nwV V (cm s)) s (cm s) 0 = true := by
      have x1 : hrd (nwV V (cm s)) 0 s (npk (nwV V (cm s))) = false := (hG1.2.2.2.2.2.1 s hs).trans hP
      have x2 := hG1.pos hk
      have x3 := hGp0.pos hk
      have x4 : ncl (nwV V (cm s)) 0 144 ≠ 0 := by omega
      have x5 : ncl (apV (nwV V (cm s)) s (cm s) 0 (nI 0)) 0 144 ≠ 0 := by omega
      unfold tkB
      rw [x1, decide_eq_true x4, decide_eq_true x5]
      rfl
    obtain ⟨g2, a1, a2, a3⟩ := k2 0 (by omega) (by rw [e2]; show (if tkB (nwV V (cm s)) s (cm s) 0 = true then nI 0 else _) = _; rw [if_pos hb]) hb
    refine ⟨g2, _, a1, a2, a3, hGp, ?_, ?_, ?_, ?_, ?_⟩
    · rw [ap_np (by omega), e1]
    · rw [ap_nq, e2]
    · rw [ap_nt]; rfl
    · rw [ap_no, e3]
    · rw [hbf2 (by omega)]
      exact hG.shrinks hn8 hs (by omega) (by omega) (hG.2.2.2.2.2.2 s hs hP)
end PCK
