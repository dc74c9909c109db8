/-! the law's second loop -/
section LOP
variable {z : Nat} {n e q c0 b0 : Nat} {at' cm : Nat → Nat}
def S2 (n e q : Nat) (at' cm : Nat → Nat) (g : Hp) (V : VV) (P : Nat → Bool) (p bf : Nat) : Prop := IN g V ∧ AL g ∧ GD n e q at' cm V P ∧ (∀ i, i < n → gI g (30, 0) i = if P i = true then -1 else nI (cm i)) ∧ npk V = p ∧ cP P n = p ∧ (nqk V = if p = 0 then 0 else 1) ∧ ntw V = 1 ∧ nw V ≤ 400 ∧ (p = 0 → bf = 145) ∧ (0 < p → bf = ncl V 0 144)
theorem room35 {g : Hp} {V : VV} (h : IN g V) : gc g ≤ 600000 ∧ gs g ≤ 7302250 := by
  have hc := h.c
  have h1 := h.v.hv.ns.2
  have h2 := h.v.tw.2
  have h3 := h.v.hv.np.2
  have h4 := h.v.qk.2
  have h5 := kp_b V
  have hb : cnt V ≤ 481 := by unfold cnt; omega
  have := hc.1
  have := hc.2
  exact ⟨by omega, by omega⟩
/-- all are picked: the law's end -/
theorem lawEnd (hz : 2000 ≤ z) {g : Hp} {V : VV} {P : Nat → Bool} {bf : Nat} (hk : OKc n e q c0 b0 at' cm) (h : IN g V) (hG : GD n e q at' cm V P) (hP : ∀ i, i < n → P i = true) (hq : nqk V = 1) (hno : nw V ≤ 400) (hbf : bf = ncl V 0 144) : LQ ((ick (some (9, 0)) 9 (f_X8_later z (some (9, 0)) 500 g)).bind fun q47 =>
        if q47.1 ≤ 0 then (some (0, q47.2))
        else ((ick (some (9, 0)) 9 (f_X8_quake z (some (9, 0)) 0 1 q47.2)).bind fun q48 =>
          if q48.1 = nI bf then ((ick (some (9, 0)) 9 (f_X8_holds z (some (9, 0)) 0 (nI c0) (nI b0) q48.2)).bind fun q49 =>
            if q49.1 = 1 then (some (1, q49.2))
            else (some (0, q49.2)))
          else (some (0, q48.2)))) := by
  obtain ⟨g2, a1, a2, a3⟩ := later8 (z := z) h (i := 500) (by omega)
  have hG2 := hG.later (t := nw V + 500) (by omega) (fun i hi hp => by rw [hP i hi] at hp; exact absurd hp (by decide))
  have hq2 : 0 < nqk (nwV V (nw V + 500)) := by show 0 < nqk V; omega
  obtain ⟨g3, b1, b2, b3⟩ := quake8 hz a2 hq2 (b := nI 1) (by decide)
  obtain ⟨g4, c1, c2, c3⟩ := holdsT hz hk b3 hq2 hG2
  rw [tq1] at b1
  have e1 : ncl (nwV V (nw V + 500)) 0 144 = ncl V 0 144 := hG.stays hP
  have b1' : f_X8_quake z (some (9, 0)) 0 1 g2 = some (nI bf, g3) := by rw [hbf, ← e1]; exact b1
  have a1' : f_X8_later z (some (9, 0)) 500 g = some (nI (nw V + 500), g2) := a1
  simp only [ick_X, a1', ob]
  rw [if_neg (fun w => by have := (nI_leI (b := 0) (by omega) (by omega)).mp w; omega), b1', ob, if_pos rfl, c1, ob, if_pos rfl]
  exact ⟨g4, rfl, room35 c3⟩
theorem loop2 (hz : 2000 ≤ z) {L : Nat} (hL : L ≤ 260) {xs : Nat → Int32} (hk : OKc n e q c0 b0 at' cm) (p2 : Int32) : ∀ (f m p bf : Nat) (g : Hp) (V : VV) (P : Nat → Bool), S2 n e q at' cm g V P p bf → m ≤ 7 * p → n - p < f → LQ (f_L_law_237_L z L xs (nI b0) (nI c0) (some (30, 0)) (some (29, 0)) (nI n) p2 (some (9, 0)) (some (18, 0)) f (nI m) (nI p) (nI bf) g)
  | 0, _, _, _, _, _, _, _, _, h => absurd h (Nat.not_lt_zero _)
  | f + 1, m, p, bf, g, V, P, hS, hm, hf => by
    show LQ (f_L_law_237_b z L xs (nI b0) (nI c0) (some (30, 0)) (some (29, 0)) (nI n) p2 (some (9, 0)) (some (18, 0)) (f_L_law_237_L z L xs (nI b0) (nI c0) (some (30, 0)) (some (29, 0)) (nI n) p2 (some (9, 0)) (some (18, 0)) f) (nI m) (nI p) (nI bf) g)
    have hn8 := hk.1
    have hn2 := hk.2.1
    obtain ⟨h1, h2, h3, h4, h5, h6, h7, h8, h9, h10, h11⟩ := hS
    have hpn := cP_le (P := P) n
    have hin := nx_L (z := z) (L := L) (xs := xs) hn8 h2 (fun i hi => hk.le hi) h4 (nI m) (nI p) (nI bf) (nI b0) (nI c0) p2 (some (29, 0)) (some (9, 0)) (some (18, 0)) n z 0 (by omega) (by omega)
    have hin' : f_L_law_251_L z L xs (nI m) (nI p) (nI bf) (nI b0) (nI c0) (some (30, 0)) (some (29, 0)) (nI n) p2 (some (9, 0)) (some (18, 0)) z 0 (-1) g = some (nI n, enc (nx P cm n), g) := hin
    unfold f_L_law_237_b
    rw [show (400 : Int32) = nI 400 from rfl, if_neg (fun w => by have := (nI_leI (by omega) (by omega)).mp w; omega), hin', ob]
    rcases nx_sp (P := P) (cm := cm) n with ⟨w1, w2⟩ | ⟨s, w1, w2, w3, w4⟩
    · have epn : p = n := by rw [← h6]; exact cP_all n w2
      rw [w1, if_neg (show ¬ (0 : Int32) ≤ enc none from by decide), if_pos (by rw [epn])]
      exact lawEnd hz hk h1 h3 w2 (by rw [h7, if_neg (by omega)]) h9 (h11 (by omega))
    · have hps : p < n := by rw [← h6]; exact cP_lt w3 n w2
      have hcs := hk.le w2
      have hnw := h3.2.2.2.2.2.2 s w2 w3
      have hno := h1.v.hv.no
      obtain ⟨g1, a1, a2, a3⟩ := later8 (z := z) h1 (i := cm s - nw V) (by omega)
      rw [show nw V + (cm s - nw V) = cm s by omega] at a1 a2
      obtain ⟨g2, V2, b1, b2, b3, b4, b5, b6, b7, b8, b9⟩ := pickL hz hk a2 h3 h5 (by omega) h7 w2 w3 w4 h10 h11
      have A1 := h2.fr (a3.cl (by decide))
      have A2 := A1.1.fr b3
      have h4s := h4 s w2
      rw [w3, if_neg (by decide)] at h4s
      have e1 : aldI (some (30, 0)) (nI s) g = some (nI (cm s)) := by rw [ald30 h2 (by omega), h4s]
      have e2 : astI (some (30, 0)) (nI s) (-1) g2 = some (setI g2 (30, 0) s (-1)) := ast30 A2.1 (by omega)
      have e3 : f_X8_count z (some (9, 0)) 5 g = some (nI (nw V), g) := by rw [(count8 h1).1, hno.1]
      have e4 : nI (cm s) - nI (nw V) = nI (cm s - nw V) := pk_sub hnw
      have e5 : ((if nI p = 0 then (some (10 : Int32)) else (some 0)) : Option Int32) = some (if p = 0 then 10 else 0) := by
        by_cases h0 : p = 0
        · rw [h0, if_pos (by decide), if_pos rfl]
        · rw [if_neg (nI_ne0 (by omega) (by omega)), if_neg h0]
      have hb45 : bf ≤ 145 := by
        by_cases h0 : p = 0
        · rw [h10 h0]; decide
        · rw [h11 (by omega)]; have := ncl_le V 0 144; omega
      rw [w1, if_pos (show (0 : Int32) ≤ enc (some s) from nIge (by omega))]
      simp only [show enc (some s) = nI s from rfl, e1, ob, ick_X, e3, e4, a1]
      rw [if_pos trivial]
      simp only [b1, e5, ob]
      rw [if_pos trivial, e2, ob]
      refine checks hz hk (IN.setA b2 (Or.inr rfl)) b6 (b7.trans h8) b4 b5 b9 hb45 (K := fun w g9 => (f_L_cell z L xs (some (18, 0)) (26 + (nI p + 1)) g9).bind fun q43 => (f_L_low z q43.1 7 q43.2).bind fun q44 => f_L_law_237_L z L xs (nI b0) (nI c0) (some (30, 0)) (some (29, 0)) (nI n) p2 (some (9, 0)) (some (18, 0)) f (nI m + (1 + q44.1)) (nI p + 1) w q44.2) (fun g9 k1 k2 => ?_)
      have A3 := (A2.1.set (n := (30, 0)) (k := s) (v := -1)).fr (k2.cl (by decide))
      have hl : lw (scv L xs (26 + (p + 1)), g9).1 7 < 7 := lw_lt _ (by decide)
      show LQ ((f_L_cell z L xs (some (18, 0)) (26 + (nI p + 1)) g9).bind fun q43 => (f_L_low z q43.1 7 q43.2).bind fun q44 => f_L_law_237_L z L xs (nI b0) (nI c0) (some (30, 0)) (some (29, 0)) (nI n) p2 (some (9, 0)) (some (18, 0)) f (nI m + (1 + q44.1)) (nI p + 1) (nI (ncl V2 0 144)) q44.2)
      rw [nI_1, show (26 : Int32) = nI 26 from rfl, nI_add, cellS hL (by omega), ob, show (7 : Int32) = nI 7 from rfl, lowS _ (by decide) (by decide), ob, show (1 : Int32) = nI 1 from rfl, nI_add, nI_add]
      refine loop2 hz hL hk p2 f _ (p + 1) _ g9 V2 (fun i => P i || decide (i = s)) ⟨k1, A3.1, b4, fun i hi => ?_, b5, ?_, ?_, b7.trans h8, by omega, fun w => by omega, fun _ => rfl⟩ (by omega) (by omega)
      · rw [A3.2.2, gI_set]
        by_cases ei : i = s
        · subst ei
          rw [if_pos ⟨rfl, rfl⟩, if_pos (by simp)]
        · rw [if_neg (fun w => ei w.2), A2.2.2, A1.2.2, h4 i hi]
          have : ((P i || decide (i = s)) = true) ↔ P i = true := by simp [ei]
          by_cases hpi : P i = true
          · rw [if_pos hpi, if_pos (this.mpr hpi)]
          · rw [if_neg hpi, if_neg (fun w => hpi (this.mp w))]
      · rw [cP_add w3 n w2, h6]
      · rw [b6, if_neg (by omega)]
end LOP
