/-! pick: which quake takes it -/
def tkB (V : VV) (s t q : Nat) : Bool := !(hrd V q s (npk V)) && (decide (ncl V q 144 ≠ 0) && decide (ncl (apV V s t 0 (nI q)) q 144 ≠ 0))
def tkF (V : VV) (s t : Nat) : Nat → Nat → Int32
  | 0, _ => -9
  | k + 1, q => if tkB V s t q = true then nI q else tkF V s t k (q + 1)
theorem tkF_sp {V : VV} {s t : Nat} : ∀ k q, tkF V s t k q = -9 ∨ ∃ q2, q ≤ q2 ∧ q2 < q + k ∧ tkF V s t k q = nI q2 ∧ tkB V s t q2 = true
  | 0, q => Or.inl rfl
  | k + 1, q => by
    by_cases e : tkB V s t q = true
    · exact Or.inr ⟨q, by omega, by omega, if_pos e, e⟩
    · rcases tkF_sp (V := V) (s := s) (t := t) k (q + 1) with h | ⟨q2, h1, h2, h3, h4⟩
      · exact Or.inl ((if_neg e).trans h)
      · exact Or.inr ⟨q2, by omega, by omega, (if_neg e).trans h3, h4⟩
section TAK
variable {z : Nat}
theorem ap_fold {V : VV} (h : VI V) {s t q : Nat} (c0 : Int32) (hq : q < nqk V) (hs : s < nst V) (ht : t ≤ nw V) (hp : npk V < 60) (hh : hrd V q s (npk V) = false) {c : Nat} (hc : c < 144) : cLo V (fun i => tkS (apV V s t c0 (nI q)) q i (npk V + 1)) c (nst V) = lo (apV V s t c0 (nI q)) q c ∧ cHi V (fun i => tkS (apV V s t c0 (nI q)) q i (npk V + 1)) c (nst V) = hi (apV V s t c0 (nI q)) q c := by
  have h10 := h.hv.ns.2
  have hno := h.hv.no.2
  have hv := ap_hv (c := c0) (qv := nI q) h.hv hs ht hp
  have hf : ∀ p, p < npk V → V 50 p = nI q → sP V p ≠ s := fun p h1 h2 h3 => by
    rcases tkS_sp (W := V) (q := q) (s := s) (npk V) with ⟨-, -, w⟩ | ⟨-, -, -, -, -, w⟩
    · exact w p h1 ⟨h2, by rw [(h.hv.pk h1).1, h3]⟩
    · rw [w] at hh; exact absurd hh (by decide)
  have hx := fold_eq (W := apV V s t c0 (nI q)) hv (q := q) (c := c) hc (fun p p2 h1 h2 h3 h4 h5 => by
    rw [ap_np hp] at h1 h2
    by_cases e1 : p = npk V
    · by_cases e2 : p2 = npk V
      · rw [e1, e2]
      · exfalso
        rw [e1, ap_sPa (by omega), ap_sP e2] at h5
        rw [(ap_lt e2).2.2.2] at h4
        exact hf p2 (by omega) h4 h5.symm
    · rw [(ap_lt e1).2.2.2] at h3
      by_cases e2 : p2 = npk V
      · exfalso
        rw [e2, ap_sPa (by omega), ap_sP e1] at h5
        exact hf p (by omega) h3 h5
      · rw [(ap_lt e2).2.2.2] at h4
        rw [ap_sP e1, ap_sP e2] at h5
        exact h.un (by omega) (by omega) (h3.trans h4.symm) (by rw [h3]; exact nI_ne9 (by have := h.qk.2; omega)) h5) ⟨npk V, by rw [ap_np hp]; omega, ap_at.2.2.2⟩
  rw [ap_np hp, ap_ns] at hx
  obtain ⟨w1, w2⟩ := cLo_w (V := V) (V2 := apV V s t c0 (nI q)) (hd := fun i => tkS (apV V s t c0 (nI q)) q i (npk V + 1)) (c := c) (ap_ev.1 60 (by decide) (by decide)) (ap_ev.1 41 (by decide) (by decide)) ap_no ap_er ap_sl (nst V)
  rw [← w1, ← w2]
  exact hx
theorem hears8 {g : Hp} {V : VV} (h : IN g V) {s q : Nat} (hq : q < nqk V) (hs : s < nst V) : f_X3_hears z (some (4, q)) (nI s) g = some ((if hrd V q s (npk V) = true then 1 else 0), g) := by
  have h10 := h.v.hv.ns.2
  have r26 : gR g (4, q) 2 = some (26, q) := (h.r.2.2.2.2.1.2.1 q hq).1
  have n26 : gN g (26, q) = 10 := (h.r.2.2.2.2.1.2.1 q hq).2.2.2.1
  simp only [f_X3_hears, gR_X, r26, Option.bind_some, ald_X n26 (by decide) (by decide) (show s < 10 by omega) (by decide), h.qt hq (show s < 10 by omega)]
  rcases tkS_sp (W := V) (q := q) (s := s) (npk V) with ⟨w1, w2, -⟩ | ⟨p, w1, -, -, w4, w5⟩
  · rw [w1, w2, if_pos (by decide)]; exact rtZ_0
  · have := (h.v.hv.pk w1).2.2.2
    have := h.v.hv.no.2
    rw [w4, w5, if_neg (fun w => by have := (iI_eq (y := -1) (by omega) (by omega) (by omega) (by omega)).mp (w.trans (by decide)); omega)]; exact rtZ_1
theorem takes8 (hz : 2000 ≤ z) {g : Hp} {V : VV} (h : IN g V) {s t q : Nat} (hq : q < nqk V) (hs : s < nst V) (ht : t ≤ nw V) (hp : npk V < 60) : ∃ g2, f_X8_takes z (some (9, 0)) (nI q) (nI s) (nI t) g = some ((if tkB V s t q = true then 1 else 0), g2) ∧ Ch [1, 21, 22] g g2 ∧ IN g2 V := by
  have h10 := h.v.hv.ns.2
  have hno := h.v.hv.no.2
  have hn1 := ncl_le V q 144
  have hn2 := ncl_le (apV V s t 0 (nI q)) q 144
  unfold f_X8_takes
  simp only [gr_C h.b1, cRef, Option.bind_some, ick_X, getQ h hq, ckc_X, hears8 h hq hs]
  by_cases hh : hrd V q s (npk V) = true
  · have e : ¬ tkB V s t q = true := by unfold tkB; rw [hh]; simp
    refine ⟨g, ?_, Ch.rf _ _, h⟩
    rw [if_pos hh, if_neg (by decide), if_neg e]; exact rtZ_0
  · have hf : hrd V q s (npk V) = false := by simpa using hh
    rw [if_neg hh, if_pos rfl]
    obtain ⟨g1, a1, a2, a3, a4, a5, a6, a7⟩ := heapOf8 hz h hq
    simp only [a1, Option.bind_some, gI_X, a5]
    by_cases h0 : ncl V q 144 = 0
    · have e : ¬ tkB V s t q = true := by unfold tkB; rw [h0]; simp
      refine ⟨g1, ?_, a2, a3⟩
      rw [h0, if_pos (by decide), if_neg e]; exact rtZ_0
    · rw [if_neg (nI_ne0 (by omega) (by omega))]
      have hfold := fun c (hc : c < 144) => ap_fold (c0 := 0) h.v hq hs ht hp hf hc
      have hv := ap_hv (c := 0) (qv := nI q) h.v.hv hs ht hp
      obtain ⟨g2, b1, b2, b3, b4, b5⟩ := fill8 hz a3 (m := nI s) (t := nI t) (hd := fun i => tkS (apV V s t 0 (nI q)) q i (npk V + 1)) hq (fun i hi => by
        have hb := tkS_bd hv (q := q) (s := i)
        rw [ap_np hp] at hb
        refine ⟨hb.1, hb.2, ?_⟩
        by_cases e : i = s
        · subst e
          rw [if_pos rfl, ap_tkSa (by omega) rfl, nI_iI]
        · have en : nI s ≠ nI i := fun w => e (nI_inj2 w (by omega) (by omega)).symm
          rw [if_neg (fun w => en w.symm), ap_tkS (Or.inr en)]
          exact a3.qt hq (by omega))
      have en : gI g2 (1, 0) 2 = nI (ncl (apV V s t 0 (nI q)) q 144) := by
        rw [b5, ← ccF_ncl, ccF_e 144 (fun c hc => hfold c hc)]
      have i2 := a3.scr b2 b3
      refine ⟨g2, ?_, a2.tr b2, i2⟩
      simp only [b1, Option.bind_some, gr_C i2.b1, cRef, gI_X, en]
      by_cases h1 : ncl (apV V s t 0 (nI q)) q 144 = 0
      · have e : ¬ tkB V s t q = true := by unfold tkB; rw [h1]; simp
        rw [h1, if_pos (by decide), if_neg e]; exact rtZ_0
      · have e : tkB V s t q = true := by unfold tkB; rw [hf]; simp [h0, h1]
        rw [if_neg (fun w => by have := (nI_leI (b := 0) (by omega) (by omega)).mp w; omega), if_pos e]; exact rtZ_1
theorem taker8_L (hz : 2000 ≤ z) {V : VV} {s t : Nat} (hs : s < nst V) (ht : t ≤ nw V) (hp : npk V < 60) : ∀ (k n q : Nat) (g : Hp), IN g V → q + k = nqk V → k < n → ∃ g2, f_X8_takerOf_2_L z (some (9, 0)) (nI s) (nI t) n (nI q) g = some (tkF V s t k q, g2) ∧ Ch [1, 21, 22] g g2 ∧ IN g2 V
  | k, 0, _, _, _, _, h => absurd h (Nat.not_lt_zero _)
  | 0, n + 1, q, g, h, e, _ => by
    have h5 := h.v.qk.2
    refine ⟨g, ?_, Ch.rf _ _, h⟩
    show f_X8_takerOf_2_b z (some (9, 0)) (nI s) (nI t) (f_X8_takerOf_2_L z (some (9, 0)) (nI s) (nI t) n) (nI q) g = some (-9, g)
    unfold f_X8_takerOf_2_b
    simp only [gr_C h.b1, cRef, Option.bind_some, ick_X, sizeJ h.c3]
    rw [if_pos ((nI_leI (by omega) (by omega)).mpr (by omega))]
  | k + 1, n + 1, q, g, h, e, hn => by
    have h5 := h.v.qk.2
    obtain ⟨g1, a1, a2, a3⟩ := takes8 hz h (show q < nqk V by omega) hs ht hp
    show ∃ g2, f_X8_takerOf_2_b z (some (9, 0)) (nI s) (nI t) (f_X8_takerOf_2_L z (some (9, 0)) (nI s) (nI t) n) (nI q) g = some ((if tkB V s t q = true then nI q else tkF V s t k (q + 1)), g2) ∧ _
    unfold f_X8_takerOf_2_b
    simp only [gr_C h.b1, cRef, Option.bind_some, ick_X, sizeJ h.c3]
    rw [if_neg (fun w => by have := (nI_leI (by omega) (by omega)).mp w; omega), a1]
    simp only [Option.bind_some]
    by_cases hb : tkB V s t q = true
    · refine ⟨g1, ?_, a2, a3⟩
      rw [if_pos hb, if_neg (by decide), if_pos hb]
    · rw [if_neg hb, if_pos rfl, if_neg hb, nI_1]
      obtain ⟨g2, b1, b2, b3⟩ := taker8_L hz hs ht hp k n (q + 1) g1 a3 (by omega) (by omega)
      exact ⟨g2, b1, a2.tr b2, b3⟩
end TAK
