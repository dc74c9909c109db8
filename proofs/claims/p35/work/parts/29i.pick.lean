section OPI
variable {z : Nat}
theorem ap_cntA {U : VV} {s t : Nat} {c qv : Int32} (hp : npk U < 60) : cnt (apV U s t c qv) = nst U + ntw U + (npk U + 1) + nqk U + kp U := by
  unfold cnt
  rw [ap_ns, ap_nt, ap_np hp, ap_nq, kp_e (ap_ev.2 24 (by decide))]
theorem pick8 (hz : 2000 ≤ z) {g : Hp} {V : VV} (h : IN g V) {s t x : Nat} (hs : s < nst V) (ht : t ≤ nw V) (hx1 : 1 ≤ x) (hx2 : x ≤ 1000000) (hp : npk V < 60) : (tkF V s t (nqk V) 0 = -9 → nqk V < 5 → ∃ g2, f_X8_pick z (some (9, 0)) (nI s) (nI t) (nI x) g = some (10 + nI (nqk V), g2) ∧ IN g2 (apV (opV V) s t (nI x) (nI (nqk V))) ∧ Fr PCl g g2) ∧ ∀ q, q < nqk V → tkF V s t (nqk V) 0 = nI q → tkB V s t q = true → ∃ g2, f_X8_pick z (some (9, 0)) (nI s) (nI t) (nI x) g = some (nI q, g2) ∧ IN g2 (apV V s t (nI x) (nI q)) ∧ Fr PCl g g2 := by
  have hnp := h.v.hv.np
  have h5 := h.v.qk
  have hno := h.v.hv.no
  obtain ⟨a, ea⟩ : ∃ a, a = nI s := ⟨_, rfl⟩
  obtain ⟨b, eb⟩ : ∃ b, b = nI t := ⟨_, rfl⟩
  obtain ⟨c, ec⟩ : ∃ c, c = nI x := ⟨_, rfl⟩
  have h10 := h.v.hv.ns
  have g1 : ¬ inB a 0 (V 10 6 - 1) = 0 := by rw [ea, h10.1, inB_in hs (by omega)]; decide
  have g2 : ¬ inB b 0 (V 10 5) = 0 := by
    unfold inB
    rw [eb, hno.1, show (0 : Int32) = nI 0 from rfl, if_neg (fun w => by have := (nI_ltI (by omega) (by omega)).mp w; omega), if_neg (fun w => by have := (nI_ltI (by omega) (by omega)).mp w; omega)]; decide
  have g3 : ¬ inB c 1 1000000 = 0 := by
    unfold inB
    rw [ec, show (1 : Int32) = nI 1 from rfl, show (1000000 : Int32) = nI 1000000 from rfl, if_neg (fun w => by have := (nI_ltI (by omega) (by omega)).mp w; omega), if_neg (fun w => by have := (nI_ltI (by omega) (by omega)).mp w; omega)]; decide
  have hlt : nI (npk V) < 60 := by rw [show (60 : Int32) = nI 60 from rfl]; exact (nI_ltI (by omega) (by omega)).mpr hp
  obtain ⟨gt, t1, t2, t3⟩ := taker8_L (z := z) hz hs ht hp (nqk V) z 0 g h (by omega) (by omega)
  rw [← ea, ← eb, show nI 0 = (0 : Int32) from rfl] at t1
  have hnm : (3, npk V) ∉ gL gt := t3.r.2.2.2.1.2 (npk V) (Nat.le_refl _)
  have hst8 : ∀ Q, ((if tkF V s t (nqk V) 0 = (-9) then ((getR (some (9, 0)) 9 4 gt).bind fun x8 =>
          (ick x8 0 (f_Jx4a65c_size_8abf5 z x8 gt)).bind fun q9 =>
          if 5 ≤ q9.1 then ((getR (some (9, 0)) 9 3 q9.2).bind fun x10 =>
            (mkO (3, lsz q9.2 2) 3 q9.2).bind fun q11 =>
            (nnl q11.1 (f_X2_init z q11.1 a b c 3 (-9) q11.2)).bind fun q12 =>
            (ick x10 0 (f_Jx4a65c_add_9ea2d z x10 q11.1 q12.2)).bind fun q13 =>
            some ((-9), q13.2))
          else ((getR (some (9, 0)) 9 4 q9.2).bind fun x14 =>
            (ick x14 0 (f_Jx4a65c_size_8abf5 z x14 q9.2)).bind fun q15 =>
            (getR (some (9, 0)) 9 4 q15.2).bind fun x16 =>
            (mkO (4, lsz q15.2 3) 4 q15.2).bind fun q17 =>
            (nnl q17.1 (f_X3_init z q17.1 a b c q17.2)).bind fun q18 =>
            (ick x16 0 (f_Jx4a65c_add_9ea2d z x16 q17.1 q18.2)).bind fun q19 =>
            (getR (some (9, 0)) 9 3 q19.2).bind fun x20 =>
            (mkO (3, lsz q19.2 2) 3 q19.2).bind fun q21 =>
            (nnl q21.1 (f_X2_init z q21.1 a b c 2 q15.1 q21.2)).bind fun q22 =>
            (ick x20 0 (f_Jx4a65c_add_9ea2d z x20 q21.1 q22.2)).bind fun q23 =>
            some ((10 + q15.1), q23.2)))
        else ((getR (some (9, 0)) 9 4 gt).bind fun x24 =>
          (ick x24 0 (f_Jx4a65c_get_915e3 z x24 (tkF V s t (nqk V) 0) gt)).bind fun q25 =>
          (ckc q25.1 4).bind fun _ =>
          (ick q25.1 4 (f_X3_hear z q25.1 a b q25.2)).bind fun q27 =>
          (getR (some (9, 0)) 9 6 q27.2).bind fun x28 =>
          (ick x28 1 (f_X0_forget z x28 q27.2)).bind fun q29 =>
          (getR (some (9, 0)) 9 3 q29.2).bind fun x30 =>
          (mkO (3, lsz q29.2 2) 3 q29.2).bind fun q31 =>
          (nnl q31.1 (f_X2_init z q31.1 a b c 1 (tkF V s t (nqk V) 0) q31.2)).bind fun q32 =>
          (ick x30 0 (f_Jx4a65c_add_9ea2d z x30 q31.1 q32.2)).bind fun q33 =>
          some (tkF V s t (nqk V) 0, q33.2))) : Option (Int32 × Hp)) = Q → f_X8_pick z (some (9, 0)) a b c g = Q := fun Q hQ => by
    rw [← hQ]
    simp only [f_X8_pick, ick_X, isStation8 h, ob, if_neg g1, gi_C, h.f10, in8, if_neg g2, if_neg g3, gr_C h.b1, cRef, sizeJ h.c2, if_pos hlt, f_X8_takerOf, t1]
  have hcb := t3.c
  rw [← ec, ← ea, ← eb]
  refine ⟨fun e9 hq4 => ?_, fun q hq2 eq hb => ?_⟩
  · have enp : npk (opV V) = npk V := op_w.np
    obtain ⟨ga, gx, o1, o2, hPU, o4, o5, o6⟩ := opened (z := z) hz t3 hs ht hp hq4 hx2
    rw [← ec] at o1 hPU
    have e51 : ∀ q, q < nqk V → opV V 51 q = V 51 q := fun q hq => op_51 (by omega)
    have e50 : opV V 50 = V 50 := op_ev.1 50 (by decide) (by decide)
    have e49 : opV V 49 = V 49 := op_ev.1 49 (by decide) (by decide)
    have e47 : opV V 47 = V 47 := op_ev.1 47 (by decide) (by decide)
    have enq : nqk (opV V) = nqk V + 1 := op_nq (by omega)
    have hA : VI (apV (opV V) s t (nI x) (nI (nqk V))) := by
      refine ap_vi (op_w.hv h.v.hv) ?_ ?_ ?_ (fun i hi => ?_) (fun i hi => ?_) (fun p hp => ?_) (fun q hq => ?_) (fun p p2 k1 k2 k3 k4 k5 => ?_) (fun q t k k1 k2 k3 k4 => ?_) ?_ ?_ ?_ hx1 hx2 ?_ (fun _ p k1 k2 => ?_)
      · rw [ntw_e (op_ev.2 9 (by decide)), op_ev.2 9 (by decide)]; exact h.v.tw
      · rw [enq, op_20]; exact ⟨rfl, by omega⟩
      · rw [nms_e (op_ev.2 24 (by decide)), op_ev.2 24 (by decide)]; exact h.v.ms
      · rw [nst_e (op_ev.2 6 (by decide))] at hi
        rw [op_ev.1 43 (by decide) (by decide)]; exact h.v.sz hi
      · rw [ntw_e (op_ev.2 9 (by decide))] at hi
        unfold cT
        rw [op_ev.1 42 (by decide) (by decide)]; exact h.v.to hi
      · rw [enp] at hp
        unfold sg
        rw [e49, e50, enq]
        obtain ⟨m1, m2, m3, m4⟩ := h.v.pq hp
        refine ⟨m1, m2, m3, ?_⟩
        rcases m4 with m4 | ⟨q, m5, m6⟩
        · exact Or.inl m4
        · exact Or.inr ⟨q, by omega, m6⟩
      · rw [enq] at hq
        rw [enp, e50]
        by_cases w : q = nqk V
        · rw [w, op_51a]; exact Or.inr ⟨rfl, rfl⟩
        · rw [op_51 w]
          have m := h.v.fp (show q < nqk V by omega)
          exact Or.inl ⟨fP V q, m.1, m.2.1, m.2.2⟩
      · rw [enp] at k1 k2
        unfold sP at k5
        rw [e50] at k3 k4
        rw [e47] at k5
        exact h.v.un k1 k2 k3 k4 k5
      · rw [op_ev.1 55 (by decide) (by decide)]; exact h.v.tt k1 k2 k3 k4
      · rw [nst_e (op_ev.2 6 (by decide))]; exact hs
      · rw [op_w.no]; exact ht
      · rw [enp]; exact hp
      · exact Or.inr ⟨nqk V, by omega, rfl⟩
      · exfalso
        rw [enp] at k1
        rw [e50] at k2
        rcases (h.v.pq k1).2.2.2 with m | ⟨q, m1, m2⟩
        · rw [m] at k2; exact nI_ne9 (by omega) k2.symm
        · rw [m2] at k2; have := nI_inj2 k2 (by omega) (by omega); omega
    rw [← ec] at hA
    have hd : kdF (apV (opV V) s t c (nI (nqk V))) (npk (opV V)) = 2 := by
      unfold kdF
      rw [ap_at.2.2.2, if_neg (nI_ne9 (by omega)), nI_cl (by omega), ap_ev.1 51 (by decide) (by decide), op_51a, enp, if_pos rfl]
    obtain ⟨gb, gy, b1, b2, b3, b4⟩ := pickEnd (z := z) (d := 2) hPU (by rw [enp]; exact hp) hA (ap_vf (op_vf h.vf (by omega))) (by
      rw [ap_cntA (by rw [enp]; exact hp), enp, enq, nst_e (op_ev.2 6 (by decide)), ntw_e (op_ev.2 9 (by decide)), kp_e (op_ev.2 24 (by decide))]
      have := hcb.1; have := hcb.2
      unfold cnt at *
      omega) hd
    rw [enp] at b1 b2
    have FC : Fr PCl gt gy := o4.t (b3.mono (fun m hm => by
      rcases hm with w | w | w
      · rw [w]; exact ⟨show 3 ≠ 29 by decide, show 3 ≠ 30 by decide⟩
      · rw [w]; exact ⟨show 0 ≠ 29 by decide, show 0 ≠ 30 by decide⟩
      · exact ⟨by omega, by omega⟩))
    refine ⟨gy, hst8 _ ?_, b4, (t2.cl (by decide)).t FC⟩
    have hn4 : (4, nqk V) ∉ gL gt := (t3.r.2.2.2.2.1.2.2 (nqk V) (Nat.le_refl _)).1
    obtain ⟨-, prc, -, ⟨-, -, ph2, -, -⟩, -⟩ := hPU
    have hn3 : (3, npk V) ∉ gL gx := prc.2.2.2.1.2 (npk V) (by rw [enp]; exact Nat.le_refl _)
    rw [enp] at ph2
    rw [if_pos e9]
    simp only [gr_C t3.b1, cRef, ob, ick_X, sizeJ t3.c3]
    rw [show (5 : Int32) = nI 5 from rfl, if_neg (fun w => by have := (nI_leI (by omega) (by omega)).mp w; omega)]
    rw [lsz_e t3.c3 (by omega), mkO_X hn4]
    simp only [gr_C t3.b1, cRef, ob, nnl_X, flds, List.length]
    rw [show (0 + 1 + 1 + 1 + 1 + 1 + 1 : Nat) = 6 from rfl, ea, eb, o1]
    simp only [ob, ick_X, o2, gr_C prc.1, cRef]
    rw [lsz_e ph2 (by omega), mkO_X hn3]
    simp only [gr_C prc.1, cRef, ob, nnl_X, flds, List.length]
    rw [show (0 + 1 + 1 + 1 + 1 + 1 : Nat) = 5 from rfl, b1]
    simp only [ob, ick_X, b2]
  · have hPU := PU.joined (c := c) t3 hp hq2 hs ht
    have hne9 : ¬ nI q = -9 := nI_ne9 (by omega)
    have hfr : hrd V q s (npk V) = false := by
      unfold tkB at hb
      simp at hb
      exact hb.1
    have hA : VI (apV V s t (nI x) (nI q)) := ap_vi h.v.hv h.v.tw h.v.qk h.v.ms (fun i hi => h.v.sz hi) (fun i hi => h.v.to hi) (fun p hp => h.v.pq hp) (fun q hq => Or.inl ⟨fP V q, (h.v.fp hq).1, (h.v.fp hq).2.1, (h.v.fp hq).2.2⟩) (fun p p2 k1 k2 k3 k4 k5 => h.v.un k1 k2 k3 k4 k5) (fun q t k k1 k2 k3 k4 => h.v.tt k1 k2 k3 k4) hs ht hp hx1 hx2 (Or.inr ⟨q, hq2, rfl⟩) (fun _ p k1 k2 k3 => by
      rcases tkS_sp (W := V) (q := q) (s := s) (npk V) with ⟨-, -, w⟩ | ⟨-, -, -, -, -, w⟩
      · exact w p k1 ⟨k2, by rw [(h.v.hv.pk k1).1, k3]⟩
      · rw [w] at hfr; exact absurd hfr (by decide))
    rw [← ec] at hA
    have hfp := h.v.fp hq2
    have hd : kdF (apV V s t c (nI q)) (npk V) = 1 := by
      unfold kdF
      rw [ap_at.2.2.2, if_neg hne9, nI_cl (by omega), ap_ev.1 51 (by decide) (by decide), hfp.2.1, if_neg (fun w => by have := nI_inj2 w (by omega) (by omega); omega)]
    obtain ⟨ga, gx, b1, b2, b3, b4⟩ := pickEnd (z := z) (d := 1) hPU hp hA (ap_vf h.vf) (by
      rw [ap_cntA hp]
      have x1 : gc (jnG gt V s t q) = gc gt := rfl
      have x2 : gs (jnG gt V s t q) = gs gt := rfl
      rw [x1, x2]
      have := hcb.1; have := hcb.2
      unfold cnt at *
      omega) hd
    have FC : Fr PCl gt gx := ((jn_ch (g := gt) (V := V) (s := s) (t := t) (q := q)).cl (by decide)).t (b3.mono (fun m hm => by
      rcases hm with w | w | w
      · rw [w]; exact ⟨show 3 ≠ 29 by decide, show 3 ≠ 30 by decide⟩
      · rw [w]; exact ⟨show 0 ≠ 29 by decide, show 0 ≠ 30 by decide⟩
      · exact ⟨by omega, by omega⟩))
    refine ⟨gx, hst8 _ ?_, b4, (t2.cl (by decide)).t FC⟩
    have r1 : RC1 (setI (setI gt (26, q) s (nI t)) (4, q) 3 (nI (cntF V q (npk V) + 1))).1 := t3.b1
    have r2 : RC1 (jnG gt V s t q).1 := t3.b1
    have z2 : gI (jnG gt V s t q) (0, 2) 2 = nI (npk V) := (jn_ch.i (by simp)).trans t3.c2
    rw [eq, if_neg hne9]
    simp only [gr_C t3.b1, cRef, ob, ick_X, getQ t3 hq2, ckc_X]
    rw [ea, eb, hear8 t3 hq2 hs]
    simp only [ob, gr_C r1, cRef, ick_X, forget8]
    rw [show setI (setI (setI gt (26, q) s (nI t)) (4, q) 3 (nI (cntF V q (npk V) + 1))) (1, 0) 5 (-9) = jnG gt V s t q from rfl]
    simp only [gr_C r2, cRef, ob]
    rw [lsz_e z2 (by omega), mkO_X (show (3, npk V) ∉ gL (jnG gt V s t q) from hnm)]
    simp only [ob, nnl_X, flds, List.length]
    rw [show (0 + 1 + 1 + 1 + 1 + 1 : Nat) = 5 from rfl, b1]
    simp only [ob, ick_X, b2]
end OPI
