section OPE
variable {z : Nat}
theorem hrd0 {V : VV} (h : VI V) {i : Nat} : ∀ p, p ≤ npk V → tkS V (nqk V) i p = -1 ∧ cntF V (nqk V) p = 0
  | 0, _ => ⟨rfl, rfl⟩
  | p + 1, hp => by
    have h5 := h.qk.2
    obtain ⟨i1, i2⟩ := hrd0 h (i := i) p (by omega)
    have hne : V 50 p ≠ nI (nqk V) := by
      rcases (h.pq (show p < npk V by omega)).2.2.2 with e | ⟨q, hq, e⟩
      · rw [e]; exact fun w => nI_ne9 (by omega) w.symm
      · rw [e]; exact fun w => by have := nI_inj2 w (by omega) (by omega); omega
    unfold tkS cntF
    rw [if_neg (fun w => hne w.1), if_neg hne]
    exact ⟨i1, i2⟩
theorem opened (hz : 2000 ≤ z) {g : Hp} {V : VV} (h : IN g V) {s t x : Nat} (hs : s < nst V) (ht : t ≤ nw V) (hp : npk V < 60) (hq : nqk V < 5) (hx : x ≤ 1000000) : ∃ ga gx, f_X3_init z (some (4, nqk V)) (nI s) (nI t) (nI x) (newN g (4, nqk V) 0 6) = some ((), ga) ∧ f_Jx4a65c_add_9ea2d z (some (0, 3)) (some (4, nqk V)) ga = some (1, gx) ∧ PU gx (opV V) (apV (opV V) s t (nI x) (nI (nqk V))) ∧ Fr PCl g gx ∧ gc gx ≤ gc g + 5 ∧ gs gx ≤ gs g + 848 := by
  have h10 := h.v.hv.ns.2
  have hno := h.v.hv.no.2
  obtain ⟨f4, f26, f27, f28⟩ := h.r.2.2.2.2.1.2.2 (nqk V) (Nat.le_refl _)
  obtain ⟨ga, a1, a2, a3, a4, a5, a6, a7, a8, a9⟩ := quakeIni (z := z) hz (g := g) (n := nqk V) f26 f27 f28 (s := s) (t := t) (x := x) (by omega)
  have A2 : Fr (PC 5 [4, 26, 27, 28]) g ga := a2.mono (fun m hm => Or.inr (by rcases hm with e | e | e | e <;> (rw [e]; simp)))
  have s1 : gI ga (0, 3) 2 = nI (nqk V) := (congrFun (A2 (0, 3) (PC.n0 (by decide) (by decide))).1 2).trans h.c3
  obtain ⟨gx, b1, b2, b3, b4, b5, b6⟩ := addJ (z := z) s1 (LR.fr A2 (by decide) (by decide) (by decide) h.r.2.2.2.2.1.1) (by decide) (by omega) (by decide)
  have FA : Fr (fun m => (m = (4, nqk V) ∨ m = (26, nqk V) ∨ m = (27, nqk V) ∨ m = (28, nqk V)) ∨ m = (0, 3) ∨ m.1 = 15) g gx := a2.tr b4
  have F : Fr (PC 3 [4, 26, 27, 28, 15]) g gx := FA.mono (fun m hm => by
    rcases hm with (e | e | e | e) | e | e
    · exact Or.inr (by rw [e]; simp)
    · exact Or.inr (by rw [e]; simp)
    · exact Or.inr (by rw [e]; simp)
    · exact Or.inr (by rw [e]; simp)
    · exact Or.inl e
    · exact Or.inr (by rw [e]; simp))
  have hb : ∀ c i, c ≠ 0 → c ≠ 15 → gI gx (c, i) = gI ga (c, i) ∧ gR gx (c, i) = gR ga (c, i) ∧ gN gx (c, i) = gN ga (c, i) ∧ ((c, i) ∈ gL gx ↔ (c, i) ∈ gL ga) := fun c i c0 c15 => b4 (c, i) (fun w => by rcases w with w | w <;> simp at w <;> omega)
  have hold : ∀ c i, c ≠ 0 → c ≠ 15 → i ≠ nqk V → gI gx (c, i) = gI g (c, i) ∧ gR gx (c, i) = gR g (c, i) ∧ gN gx (c, i) = gN g (c, i) ∧ ((c, i) ∈ gL gx ↔ (c, i) ∈ gL g) := fun c i c0 c15 hi => FA (c, i) (fun w => by rcases w with (w | w | w | w) | w | w <;> simp at w <;> omega)
  have f0 : ∀ j, j ≠ 3 → gI gx (0, j) 2 = gI g (0, j) 2 := fun j hj => congrFun (F (0, j) (PC.n0 (by decide) hj)).1 2
  have enp : npk (opV V) = npk V := op_w.np
  have hpU : npk (opV V) < 60 := by rw [enp]; exact hp
  have enq : nqk (opV V) = nqk V + 1 := op_nq (by omega)
  have ekp : kp (opV V) = kp V := kp_e (op_ev.2 24 (by decide))
  have hneq : ∀ q, q < nqk V → nI (nqk V) ≠ nI q := fun q hq2 w => by have := nI_inj2 w (by omega) (by omega); omega
  have hev : Ev [47, 48, 49, 50, 51] [15, 20] V (apV (opV V) s t (nI x) (nI (nqk V))) := (op_ev.sub (by decide) (by decide)).tr (ap_ev.sub (by decide) (by decide))
  have e55 : apV (opV V) s t (nI x) (nI (nqk V)) 55 = V 55 := hev.1 55 (by decide) (by decide)
  have hvf := h.vf.2 (nqk V) (Nat.le_refl _) hq
  have etk : ∀ i k, tkS (opV V) i k (npk V) = tkS V i k (npk V) := fun i k => tkS_w _ (fun p hp => op_w.2.2 p hp)
  have ecn : ∀ i, cntF (opV V) i (npk V) = cntF V i (npk V) := fun i => cntF_w _ (fun p hp => (op_w.2.2 p hp).2.2)
  refine ⟨ga, gx, a1, b1, ⟨fr_SM F (by decide) h.s, ⟨RC1.fr F (by decide) h.b1, ?_, ?_, ?_, ?_, ?_⟩, ?_, ⟨?_, ?_, ?_, ?_, ?_⟩, ?_, ?_⟩, F.cl (by decide), by omega, by omega⟩
  · rw [nst_e (op_ev.2 6 (by decide))]; exact RCs.fr F (by decide) (by decide) h.r.2.1
  · rw [ntw_e (op_ev.2 9 (by decide))]; exact RCt.fr F (by decide) (by decide) h.r.2.2.1
  · rw [enp]; exact RCp.fr F (by decide) (by decide) h.r.2.2.2.1
  · rw [enq]
    refine ⟨b3, fun i hi => ?_, fun i hi => ?_⟩
    · have x4 := hb 4 i (by decide) (by decide)
      have x26 := hb 26 i (by decide) (by decide)
      have x27 := hb 27 i (by decide) (by decide)
      have x28 := hb 28 i (by decide) (by decide)
      by_cases e : i = nqk V
      · subst e
        obtain ⟨r2, r4, r5, n26, n27, n28⟩ := a7
        exact ⟨(congrFun x4.2.1 2).trans r2, (congrFun x4.2.1 4).trans r4, (congrFun x4.2.1 5).trans r5, x26.2.2.1.trans n26, x27.2.2.1.trans n27, x28.2.2.1.trans n28⟩
      · obtain ⟨r2, r4, r5, n26, n27, n28⟩ := h.r.2.2.2.2.1.2.1 i (by omega)
        have y4 := hold 4 i (by decide) (by decide) e
        exact ⟨(congrFun y4.2.1 2).trans r2, (congrFun y4.2.1 4).trans r4, (congrFun y4.2.1 5).trans r5, (hold 26 i (by decide) (by decide) e).2.2.1.trans n26, (hold 27 i (by decide) (by decide) e).2.2.1.trans n27, (hold 28 i (by decide) (by decide) e).2.2.1.trans n28⟩
    · obtain ⟨y4, y26, y27, y28⟩ := h.r.2.2.2.2.1.2.2 i (by omega)
      exact ⟨fun w => y4 ((hold 4 i (by decide) (by decide) (by omega)).2.2.2.mp w), fun w => y26 ((hold 26 i (by decide) (by decide) (by omega)).2.2.2.mp w), fun w => y27 ((hold 27 i (by decide) (by decide) (by omega)).2.2.2.mp w), fun w => y28 ((hold 28 i (by decide) (by decide) (by omega)).2.2.2.mp w)⟩
  · rw [ekp]; exact RCm.fr F (by decide) (by decide) h.r.2.2.2.2.2
  · have k1 : ∀ k, gI gx (1, 0) k = gI g (1, 0) k := fun k => fr_I F (by decide) (by decide)
    have k2 : ∀ k, gI gx (21, 0) k = gI g (21, 0) k := fun k => fr_I F (by decide) (by decide)
    have k3 : ∀ k, gI gx (22, 0) k = gI g (22, 0) k := fun k => fr_I F (by decide) (by decide)
    rcases h.h with w | ⟨q, w1, w2, w3, w4, w5, w6⟩
    · exact Or.inl ((k1 5).trans w)
    · have hn := hneq q w1
      have hfp : fP (opV V) q < npk (opV V) := by rw [op_fP (by omega), enp]; exact (h.v.fp w1).1
      have hl := ap_lwF (s := s) (t := t) (c := nI x) hpU hn hfp 144
      have hl2 := op_lwF (V := V) (q := q) (by omega) 144
      refine Or.inr ⟨q, by rw [ap_nq, enq]; omega, (k1 5).trans w2, fun c hc => ?_, ?_, ?_, ?_⟩
      · rw [(ap_lo hpU hn).1, (ap_lo hpU hn).2, op_w.lo_, op_w.hi_, k2, k3]; exact w3 c hc
      · rw [ap_ncl hpU hn, op_w.ncl_]; exact (k1 2).trans w4
      · rw [hl.1, hl2.1]; exact (k1 3).trans w5
      · rw [hl.2, hl2.2]; exact (k1 4).trans w6
  · rw [nst_e (op_ev.2 6 (by decide)), f0 0 (by decide)]; exact h.c0
  · rw [ntw_e (op_ev.2 9 (by decide)), f0 1 (by decide)]; exact h.c1
  · rw [enp, f0 2 (by decide)]; exact h.c2
  · rw [enq]; exact b2
  · rw [ekp, f0 4 (by decide)]; exact h.c4
  · intro n k v hz hc0 hc3 hk
    obtain ⟨cc, i⟩ := n
    by_cases c4 : cc = 4
    · subst c4
      simp only [cI, ap_nq, ap_np hpU, enq] at hk
      simp at hk
      obtain ⟨hi, hk⟩ := hk
      rw [(hb 4 i (by decide) (by decide)).1]
      by_cases e : i = nqk V
      · subst e
        have efP : fP (apV (opV V) s t (nI x) (nI (nqk V))) (nqk V) = npk (opV V) := by
          rw [ap_fP]
          unfold fP
          rw [op_51a, enp]; exact nI_cl (by omega)
        obtain ⟨w0, w1, w3⟩ := a3
        by_cases k0 : k = 0
        · subst k0
          rw [w0]
          simp [efP, ap_sPa (show s < 100 by omega)] at hk
          exact hk
        by_cases k1 : k = 1
        · subst k1
          rw [w1]
          simp [efP] at hk
          rw [← hk]
          unfold sg
          rw [ap_at.2.2.1, nI_cl (by omega)]
        by_cases k3 : k = 3
        · subst k3
          rw [w3]
          have ec : cntF (apV (opV V) s t (nI x) (nI (nqk V))) (nqk V) (npk (opV V) + 1) = 1 := by
            rw [ap_cnta rfl, enp, ecn, (hrd0 h.v (i := 0) (npk V) (Nat.le_refl _)).2]
          simp [ec] at hk
          rw [← hk]; rfl
        simp [k0, k1, k3] at hk
      · have y4 := (hold 4 i (by decide) (by decide) e).1
        rw [(hb 4 i (by decide) (by decide)).1] at y4
        rw [y4]
        have hiq : i < nqk V := by omega
        have hf := (h.v.fp hiq).1
        have ef : fP (apV (opV V) s t (nI x) (nI (nqk V))) i = fP V i := by rw [ap_fP, op_fP e]
        have esp : sP (apV (opV V) s t (nI x) (nI (nqk V))) (fP V i) = sP V (fP V i) := by
          rw [ap_sP (by omega)]; unfold sP; rw [op_ev.1 47 (by decide) (by decide)]
        have esg : sg (apV (opV V) s t (nI x) (nI (nqk V))) (fP V i) = sg V (fP V i) := by
          rw [ap_sg (by omega)]; unfold sg; rw [op_ev.1 49 (by decide) (by decide)]
        by_cases k0 : k = 0
        · subst k0
          rw [h.q0 hiq]
          simp [ef, esp] at hk
          exact hk
        by_cases k1 : k = 1
        · subst k1
          rw [h.q1 hiq]
          simp [ef, esg] at hk
          exact hk
        by_cases k3 : k = 3
        · subst k3
          rw [h.q3 hiq]
          simp [ap_cnt (V := opV V) (hneq i hiq)] at hk
          rw [enp, ecn] at hk
          exact hk
        simp [k0, k1, k3] at hk
    by_cases c26 : cc = 26
    · subst c26
      simp only [cI, ap_nq, ap_np hpU, enq] at hk
      simp at hk
      obtain ⟨⟨hi, hk10⟩, hk⟩ := hk
      rw [← hk]
      by_cases e : i = nqk V
      · subst e
        rw [(hb 26 (nqk V) (by decide) (by decide)).1, a4 k hk10]
        by_cases ks : k = s
        · subst ks
          rw [if_pos rfl, ap_tkSa (by omega) rfl, nI_iI]
        · rw [if_neg ks, ap_tkS (Or.inr (fun w => ks (nI_inj2 w (by omega) (by omega)).symm)), enp, etk, (hrd0 h.v (i := k) (npk V) (Nat.le_refl _)).1]
          decide
      · rw [(hold 26 i (by decide) (by decide) e).1, ap_tkS (Or.inl (hneq i (by omega))), enp, etk]
        exact h.qt (by omega) hk10
    by_cases c27 : cc = 27
    · subst c27
      simp only [cI, ap_nq, enq] at hk
      simp at hk
      obtain ⟨⟨hi, hk6⟩, hk⟩ := hk
      rw [← hk]
      have et : toldF (apV (opV V) s t (nI x) (nI (nqk V))) i k = toldF V i k := by unfold toldF; rw [e55]
      rw [et]
      by_cases e : i = nqk V
      · subst e
        rw [(hb 27 (nqk V) (by decide) (by decide)).1, a5 k, bt_c (f' := fun _ => false) (fun j hj1 hj2 => by
          unfold toldF
          rw [show 30 * nqk V + 5 * k + j = 30 * nqk V + (5 * k + j) by omega, hvf (5 * k + j) (by omega)]; rfl)]
        rfl
      · rw [(hold 27 i (by decide) (by decide) e).1]
        exact h.q27 (by omega) hk6
    by_cases c28 : cc = 28
    · subst c28
      simp only [cI, ap_nq, enq] at hk
      simp at hk
      obtain ⟨⟨hi, hk6⟩, hk⟩ := hk
      rw [← hk]
      have et : backF (apV (opV V) s t (nI x) (nI (nqk V))) i k = backF V i k := by unfold backF; rw [e55]
      rw [et]
      by_cases e : i = nqk V
      · subst e
        rw [(hb 28 (nqk V) (by decide) (by decide)).1, a6 k, bt_c (f' := fun _ => false) (fun j hj1 hj2 => by
          unfold backF
          rw [show 30 * nqk V + 5 * k + j = 30 * nqk V + (5 * k + j) by omega, hvf (5 * k + j) (by omega)]; rfl)]
        rfl
      · rw [(hold 28 i (by decide) (by decide) e).1]
        exact h.q28 (by omega) hk6
    · have c15 : cc ≠ 15 := fun w => by subst w; exact absurd (show 15 ∈ [0, 2, 3, 4, 5, 6, 7, 9, 20, 23, 24, 25, 26, 27, 28] from cI_cls hk) (by decide)
      rw [fr_I F (by simp [c4, c26, c27, c28, c15]) hc0]
      rw [cI_ev hev (C := [0, 3, 4, 26, 27, 28]) (by decide) (n := (cc, i)) (by simp [c4, c26, c27, c28] at hc0 hc3 ⊢; exact ⟨hc0, hc3⟩)] at hk
      exact h.i hk hz
  · intro i k v hi hk
    rw [ap_c3 hpU hi] at hk
    rw [enp] at hi
    rw [fr_I F (by decide) (by decide)]
    refine h.i (v := v) ?_
    rw [← hk]
    have e49 : opV V 49 = V 49 := op_ev.1 49 (by decide) (by decide)
    have e47 : opV V 47 = V 47 := op_ev.1 47 (by decide) (by decide)
    have e48 : opV V 48 = V 48 := op_ev.1 48 (by decide) (by decide)
    have e50 : opV V 50 = V 50 := op_ev.1 50 (by decide) (by decide)
    have ekd : kdF (opV V) i = kdF V i := by
      unfold kdF
      rw [e50]
      rcases (h.v.pq hi).2.2.2 with w | ⟨q, hq2, w⟩
      · rw [w, if_pos rfl, if_pos rfl]
      · rw [w, nI_cl (by omega), op_51 (by omega)]
    simp [cI, enp, e47, e48, e49, e50, ekd]
end OPE
