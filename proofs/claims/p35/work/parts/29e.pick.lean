/-! pick: joined, loose -/
theorem ap_kd {V : VV} {s t i : Nat} {c qv : Int32} (hi : i ≠ npk V) : kdF (apV V s t c qv) i = kdF V i := by
  unfold kdF
  rw [(ap_lt hi).2.2.2, ap_ev.1 51 (by decide) (by decide)]
theorem ap_c3 {V : VV} {s t i k : Nat} {c qv : Int32} (hp : npk V < 60) (hi : i < npk V) : cI (apV V s t c qv) (3, i) k = cI V (3, i) k := by
  obtain ⟨a1, a2, a3, a4⟩ := ap_lt (V := V) (s := s) (t := t) (c := c) (qv := qv) (show i ≠ npk V by omega)
  simp only [cI, ap_np hp, a1, a2, a3, a4, ap_kd (show i ≠ npk V by omega)]
  simp [hi, show i < npk V + 1 by omega]
theorem HC.ap {g : Hp} {V : VV} (h : HC g V) (hv : VI V) {s t : Nat} {c qv : Int32} (hp : npk V < 60) (hq : ∀ q, q < nqk V → qv ≠ nI q) : HC g (apV V s t c qv) := by
  rcases h with h | ⟨q, h1, h2, h3, h4, h5, h6⟩
  · exact Or.inl h
  · have hn := hq q h1
    have hl := ap_lwF (s := s) (t := t) (c := c) hp hn (hv.fp h1).1 144
    refine Or.inr ⟨q, by rw [ap_nq]; exact h1, h2, fun c hc => ?_, by rw [ap_ncl hp hn]; exact h4, by rw [hl.1]; exact h5, by rw [hl.2]; exact h6⟩
    rw [(ap_lo hp hn).1, (ap_lo hp hn).2]; exact h3 c hc
theorem PU.of {g0 gx : Hp} {V : VV} {s t : Nat} {c qv : Int32} (h : IN g0 V) (hch : Ch [1, 4, 26] g0 gx) (hp : npk V < 60) (h4 : ∀ i, i < nqk V → gI gx (4, i) 0 = gI g0 (4, i) 0 ∧ gI gx (4, i) 1 = gI g0 (4, i) 1 ∧ gI gx (4, i) 3 = nI (cntF (apV V s t c qv) i (npk V + 1))) (h26 : ∀ i k, i < nqk V → k < 10 → gI gx (26, i) k = iI (tkS (apV V s t c qv) i k (npk V + 1))) (hH : HC gx (apV V s t c qv)) : PU gx V (apV V s t c qv) := by
  refine ⟨h.sm1 hch, by rw [hch.1]; exact h.r, hH, ⟨(hch.i (by simp)).trans h.c0, (hch.i (by simp)).trans h.c1, (hch.i (by simp)).trans h.c2, (hch.i (by simp)).trans h.c3, (hch.i (by simp)).trans h.c4⟩, fun n k v hz c0 c3 hk => ?_, fun i k v hi hk => ?_⟩
  · obtain ⟨cc, i⟩ := n
    by_cases c4 : cc = 4
    · subst c4
      simp only [cI, ap_nq, ap_np hp] at hk
      simp at hk
      obtain ⟨hi, hk⟩ := hk
      obtain ⟨w0, w1, w3⟩ := h4 i hi
      have hf := (h.v.fp hi).1
      by_cases k0 : k = 0
      · subst k0
        rw [w0, h.q0 hi]
        simp [ap_fP, ap_sP (show fP V i ≠ npk V by omega)] at hk
        exact hk
      by_cases k1 : k = 1
      · subst k1
        rw [w1, h.q1 hi]
        simp [ap_fP, ap_sg (show fP V i ≠ npk V by omega)] at hk
        exact hk
      by_cases k3 : k = 3
      · subst k3
        rw [w3]
        simp at hk
        exact hk
      simp [k0, k1, k3] at hk
    by_cases c26 : cc = 26
    · subst c26
      simp only [cI, ap_nq, ap_np hp] at hk
      simp at hk
      rw [h26 i k hk.1.1 hk.1.2]; exact hk.2
    by_cases c1 : cc = 1
    · subst c1
      exact absurd (show 1 ∈ [0, 2, 3, 4, 5, 6, 7, 9, 20, 23, 24, 25, 26, 27, 28] from cI_cls hk) (by decide)
    · rw [hch.i (by simp [c4, c26, c1])]
      rw [cI_ev ap_ev (C := [0, 3, 4, 26]) (by decide) (n := (cc, i)) (by simp [c4, c26] at c0 c3 ⊢; exact ⟨c0, c3⟩)] at hk
      exact h.i hk hz
  · rw [hch.i (by simp)]
    rw [ap_c3 hp hi] at hk
    exact h.i hk
theorem PU.loose {g0 : Hp} {V : VV} {s t : Nat} {c : Int32} (h : IN g0 V) (hp : npk V < 60) : PU g0 V (apV V s t c (-9)) := by
  have hq : ∀ q, q < nqk V → (-9 : Int32) ≠ nI q := fun q hq w => nI_ne9 (by have := h.v.qk.2; omega) w.symm
  exact PU.of h (Ch.rf _ _) hp (fun i hi => ⟨rfl, rfl, by rw [ap_cnt (hq i hi)]; exact h.q3 hi⟩) (fun i k hi hk => by rw [ap_tkS (Or.inl (hq i hi))]; exact h.qt hi hk) (h.h.ap h.v hp hq)
def jnG (g : Hp) (V : VV) (s t q : Nat) : Hp := setI (setI (setI g (26, q) s (nI t)) (4, q) 3 (nI (cntF V q (npk V) + 1))) (1, 0) 5 (-9)
theorem jn_ch {g : Hp} {V : VV} {s t q : Nat} : Ch [1, 4, 26] g (jnG g V s t q) := ((Ch.set (by simp)).tr (Ch.set (by simp))).tr (Ch.set (by simp))
theorem PU.joined {g0 : Hp} {V : VV} {s t q : Nat} {c : Int32} (h : IN g0 V) (hp : npk V < 60) (hq : q < nqk V) (hs : s < nst V) (ht : t ≤ nw V) : PU (jnG g0 V s t q) V (apV V s t c (nI q)) := by
  have h5 := h.v.qk.2
  have hno := h.v.hv.no.2
  have h10 := h.v.hv.ns.2
  refine PU.of h jn_ch hp (fun i hi => ?_) (fun i k hi hk => ?_) (Or.inl ?_)
  · unfold jnG
    refine ⟨?_, ?_, ?_⟩
    · rw [gI_set, if_neg (by simp), gI_set, if_neg (by simp), gI_set, if_neg (by simp)]
    · rw [gI_set, if_neg (by simp), gI_set, if_neg (by simp), gI_set, if_neg (by simp)]
    · rw [gI_set, if_neg (by simp)]
      by_cases e : i = q
      · subst e
        rw [gI_set, if_pos ⟨rfl, rfl⟩, ap_cnta rfl]
      · rw [gI_set, if_neg (by simp [e]), gI_set, if_neg (by simp), ap_cnt (fun w => e (nI_inj2 w (by omega) (by omega)).symm)]
        exact h.q3 hi
  · unfold jnG
    rw [gI_set, if_neg (by simp), gI_set, if_neg (by simp)]
    by_cases e : i = q ∧ k = s
    · obtain ⟨rfl, rfl⟩ := e
      rw [gI_set, if_pos ⟨rfl, rfl⟩, ap_tkSa (by omega) rfl, nI_iI]
    · rw [gI_set, if_neg (fun w => e ⟨congrArg Prod.snd w.1, w.2⟩)]
      have hor : nI q ≠ nI i ∨ nI s ≠ nI k := by
        by_cases e1 : i = q
        · exact Or.inr (fun w => e ⟨e1, (nI_inj2 w (by omega) (by omega)).symm⟩)
        · exact Or.inl (fun w => e1 (nI_inj2 w (by omega) (by omega)).symm)
      rw [ap_tkS hor]
      exact h.qt hi hk
  · unfold jnG
    rw [gI_set, if_pos ⟨rfl, rfl⟩]
section JNG
variable {z : Nat}
theorem hear8 {g : Hp} {V : VV} (h : IN g V) {s t q : Nat} (hq : q < nqk V) (hs : s < nst V) : f_X3_hear z (some (4, q)) (nI s) (nI t) g = some ((), setI (setI g (26, q) s (nI t)) (4, q) 3 (nI (cntF V q (npk V) + 1))) := by
  have h10 := h.v.hv.ns.2
  have r26 : gR g (4, q) 2 = some (26, q) := (h.r.2.2.2.2.1.2.1 q hq).1
  have n26 : gN g (26, q) = 10 := (h.r.2.2.2.2.1.2.1 q hq).2.2.2.1
  have e : gI (setI g (26, q) s (nI t)) (4, q) 3 = nI (cntF V q (npk V)) := by rw [gI_set, if_neg (by simp)]; exact h.q3 hq
  simp only [f_X3_hear, gR_X, r26, Option.bind_some, ast_X n26 (by decide) (by decide) (show s < 10 by omega) (by decide), gI_X, pI_X, e, nI_1]
end JNG
