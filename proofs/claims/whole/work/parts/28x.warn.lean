section WAN
variable {z : Nat}
theorem towL9 (hz : 2000 ≤ z) {g : Hp} (h : SM g) {q T : Nat} {o : Bool} : ∀ (m n : Nat) (V V2 : VV) (v1 : Int32), m ≤ T → m < n → EqR V V2 → VI V → HP V q V2 144 → q < nqk V → ntw V = T → nms V + 4 * m ≤ 1999990 → ∃ V3, f_X9_warn_29_L z (if o = true then 1 else 0) (nI q) (some (10, 0)) n (nI (T - m)) v1 (wM g V2) = some (nI T, v1 + (wT o q T m V).2, wM g V3) ∧ EqR (wT o q T m V).1 V3
  | m, 0, _, _, _, _, h, _, _, _, _, _, _ => absurd h (Nat.not_lt_zero _)
  | 0, n + 1, V, V2, v1, _, _, hE, hv, _, _, hT, _ => by
    have ht6 := hv.tw
    refine ⟨V2, ?_, hE⟩
    show f_X9_warn_29_b z _ (nI q) (some (10, 0)) (f_X9_warn_29_L z _ (nI q) (some (10, 0)) n) (nI T) v1 (wM g V2) = some (nI T, v1 + 0, wM g V2)
    unfold f_X9_warn_29_b
    simp only [gi_M, Option.bind_some, hE 10 (by decide) (by decide), ht6.1, hT]
    rw [if_pos ((nI_leI (by omega) (by omega)).mpr (Nat.le_refl _)), Int32.add_zero]
  | m + 1, n + 1, V, V2, v1, hm, hn, hE, hv, hP, hq, hT, hs => by
    have ht6 := hv.tw
    have hq5 := hv.qk.2
    have hl2 : T - (m + 1) + 1 = T - m := by omega
    have htt : T - (m + 1) < ntw V := by omega
    have s := wL_g (o := o) (q := q) (t := T - (m + 1)) (fe := iI (feV V q (T - (m + 1)))) 4 V hv (by omega)
    have s2 := s.2.2
    have hfe := feels9 hz h hv hE hq htt hP
    show ∃ V3, f_X9_warn_29_b z _ (nI q) (some (10, 0)) (f_X9_warn_29_L z _ (nI q) (some (10, 0)) n) (nI (T - (m + 1))) v1 (wM g V2) = some (nI T, v1 + ((wL o q (T - (m + 1)) (iI (feV V q (T - (m + 1)))) 4 V).2 + (wT o q T m (wL o q (T - (m + 1)) (iI (feV V q (T - (m + 1)))) 4 V).1).2), wM g V3) ∧ EqR (wT o q T m (wL o q (T - (m + 1)) (iI (feV V q (T - (m + 1)))) 4 V).1).1 V3
    unfold f_X9_warn_29_b
    simp only [gi_M, Option.bind_some, hE 10 (by decide) (by decide), ht6.1, hT]
    rw [if_neg (fun w => by have := (nI_leI (by omega) (by omega)).mp w; omega), nI_1, hl2]
    have e6 : (if (if o = true then (1 : Int32) else 0) = 0 then ((ick (some (10, 0)) 10 (f_X9_feels z (some (10, 0)) (nI (T - (m + 1))) (nI q) (wM g V2))).bind fun q5 => some (q5.1, q5.2)) else (some (0, wM g V2))) = some ((if o = true then 0 else iI (feV V q (T - (m + 1)))), wM g V2) := by
      cases o with
      | false => simp only [Bool.false_eq_true, if_false, if_true, ick_M, hfe, Option.bind_some]
      | true => simp only [if_true]; rw [if_neg (by decide)]
    rw [e6]
    simp only [Option.bind_some]
    obtain ⟨V3, b1, b2, b3, b4⟩ := sayL9 (z := z) h (q := q) (t := T - (m + 1)) (o := o) (fe := iI (feV V q (T - (m + 1)))) (p5 := if o = true then 0 else iI (feV V q (T - (m + 1)))) (fun w => by rw [if_neg (by rw [w]; decide)]) (by omega) (by omega) 4 z V V2 v1 (by decide) (by omega) hE hv (by omega)
    rw [show nI (5 - 4) = (1 : Int32) from rfl] at b1
    rw [b1]
    simp only [Option.bind_some]
    obtain ⟨V4, c1, c2⟩ := towL9 hz h (q := q) (T := T) (o := o) m n (wL o q (T - (m + 1)) (iI (feV V q (T - (m + 1)))) 4 V).1 V3 (v1 + (wL o q (T - (m + 1)) (iI (feV V q (T - (m + 1)))) 4 V).2) (by omega) (by omega) b2 s.1 (hP.eqh s.h b3 b4) (by rw [s.nq]; exact hq) (by rw [s.nt]; exact hT) (by omega)
    exact ⟨V4, by rw [c1, Int32.add_assoc], c2⟩
theorem qkL9 (hz : 2000 ≤ z) {g : Hp} (h : SM g) {Q T : Nat} : ∀ (m n : Nat) (V V2 : VV) (v1 : Int32), m ≤ Q → m < n → EqR V V2 → VI V → nqk V = Q → ntw V = T → nms V + 24 * m ≤ 1999990 → ∃ V3, f_X9_warn_4_L z (some (10, 0)) n (nI (Q - m)) v1 (wM g V2) = some (nI Q, v1 + (wQ Q T m V).2, wM g V3) ∧ EqR (wQ Q T m V).1 V3
  | m, 0, _, _, _, _, h, _, _, _, _, _ => absurd h (Nat.not_lt_zero _)
  | 0, n + 1, V, V2, v1, _, _, hE, hv, hQ, _, _ => by
    have hq5 := hv.qk
    refine ⟨V2, ?_, hE⟩
    show f_X9_warn_4_b z (some (10, 0)) (f_X9_warn_4_L z (some (10, 0)) n) (nI Q) v1 (wM g V2) = some (nI Q, v1 + 0, wM g V2)
    unfold f_X9_warn_4_b
    simp only [gi_M, Option.bind_some, hE 10 (by decide) (by decide), hq5.1, hQ]
    rw [if_pos ((nI_leI (by omega) (by omega)).mpr (Nat.le_refl _)), Int32.add_zero]
  | m + 1, n + 1, V, V2, v1, hm, hn, hE, hv, hQ, hT, hs => by
    have hq5 := hv.qk
    have ht6 := hv.tw
    have hl2 : Q - (m + 1) + 1 = Q - m := by omega
    have hqq : Q - (m + 1) < nqk V := by omega
    have eh : EqH V V2 := (Ev.q hE).h (by decide) (by decide)
    have s := wT_g (o := decide (ncl V (Q - (m + 1)) 144 = 0)) (q := Q - (m + 1)) (T := T) T V hv (by omega)
    have s2 := s.2.2
    obtain ⟨V3, a1, a2, a3⟩ := setHeap9 hz h (hv.eqr hE).hv (Q - (m + 1))
    rw [eh.ncl_ 144] at a1
    have a4 : HP V (Q - (m + 1)) V3 144 := fun c hc => by
      have := a3 c hc
      rw [eh.hi_, eh.lo_] at this
      exact this
    obtain ⟨V4, b1, b2⟩ := towL9 hz h (q := Q - (m + 1)) (T := T) (o := decide (ncl V (Q - (m + 1)) 144 = 0)) T z V V3 v1 (Nat.le_refl _) (by omega) (hE.tr a2) hv a4 hqq hT (by omega)
    obtain ⟨V5, c1, c2⟩ := qkL9 hz h (Q := Q) (T := T) m n _ V4 (v1 + (wT (decide (ncl V (Q - (m + 1)) 144 = 0)) (Q - (m + 1)) T T V).2) (by omega) (by omega) b2 s.1 (by rw [s.nq]; exact hQ) (by rw [s.nt]; exact hT) (by omega)
    refine ⟨V5, ?_, c2⟩
    show f_X9_warn_4_b z (some (10, 0)) (f_X9_warn_4_L z (some (10, 0)) n) (nI (Q - (m + 1))) v1 (wM g V2) = some (nI Q, v1 + ((wT (decide (ncl V (Q - (m + 1)) 144 = 0)) (Q - (m + 1)) T T V).2 + (wQ Q T m (wT (decide (ncl V (Q - (m + 1)) 144 = 0)) (Q - (m + 1)) T T V).1).2), wM g V5)
    have hn144 := ncl_le V (Q - (m + 1)) 144
    unfold f_X9_warn_4_b
    simp only [gi_M, Option.bind_some, hE 10 (by decide) (by decide), hq5.1, hQ]
    rw [if_neg (fun w => by have := (nI_leI (by omega) (by omega)).mp w; omega), ick_M, a1, nI_1, hl2]
    simp only [Option.bind_some]
    have e3 : (if nI (ncl V (Q - (m + 1)) 144) = 0 then some (1 : Int32) else some 0) = some (if ncl V (Q - (m + 1)) 144 = 0 then 1 else 0) := by
      by_cases e : ncl V (Q - (m + 1)) 144 = 0
      · rw [e, if_pos (by decide), if_pos rfl]
      · rw [if_neg (nI_ne0 (by omega) (by omega)), if_neg e]
    rw [e3]
    simp only [Option.bind_some]
    rw [show T - T = 0 from Nat.sub_self T, show nI 0 = (0 : Int32) from rfl] at b1
    simp only [decide_eq_true_eq] at b1
    rw [b1]
    simp only [Option.bind_some]
    rw [c1, Int32.add_assoc]
theorem op_warn (hz : 2000 ≤ z) : OP (fun g => f_X8_warn z (some (9, 0)) g) (fun g => f_X9_warn z (some (10, 0)) g) := by
  intro g V h hM0 hms
  have hq5 := h.v.qk.2
  have ht6 := h.v.tw.2
  have s := wQ_g (Q := nqk V) ht6 (nqk V) V h.v (by omega)
  have s2 := s.2.2
  obtain ⟨g2, a1, a2, a3⟩ := qkL8 hz (Q := nqk V) (T := ntw V) (nqk V) z g V 0 (Nat.le_refl _) (by omega) h rfl rfl (by omega)
  obtain ⟨V2, b1, b2⟩ := qkL9 hz a2.s (Q := nqk V) (T := ntw V) (nqk V) z V V 0 (Nat.le_refl _) (by omega) (EqR.rf V) h.v rfl rfl (by omega)
  rw [show nqk V - nqk V = 0 from Nat.sub_self _, show nI 0 = (0 : Int32) from rfl] at a1 b1
  have hm : wM g2 V = g2 := fr_mmP a3 hM0
  rw [hm] at b1
  refine ⟨0 + (wQ (nqk V) (ntw V) (nqk V) V).2, g2, V2, ?_, ?_, a2.rows b2, ?_⟩
  · simp only [f_X8_warn, a1, Option.bind_some]
  · simp only [f_X9_warn, b1, Option.bind_some]
  · rw [nms_e (show V2 10 24 = (wQ (nqk V) (ntw V) (nqk V) V).1 10 24 from by rw [b2 10 (by decide) (by decide)])]
    omega
end WAN
