/-! pick: which quake takes it -/
def tkB (V : VV) (s t q : Nat) : Bool := !(hrd V q s (npk V)) && (decide (ncl V q 144 ≠ 0) && decide (ncl (apV V s t 0 (nI q)) q 144 ≠ 0))
def tkF (V : VV) (s t : Nat) : Nat → Nat → Int32
  | 0, _ => -9
  | k + 1, q => if tkB V s t q = true then nI q else tkF V s t k (q + 1)
theorem tkF_sp {V : VV} {s t : Nat} : ∀ k q, tkF V s t k q = -9 ∨ ∃ q2, q ≤ q2 ∧ q2 < q + k ∧ tkF V s t k q = nI q2 ∧ tkB V s t q2 = true
  | 0, q => Or.inl rfl
  | k + 1, q => by
    by_cases e : tkB V s t q = true
    · exact Or.inr ⟨q, by omega, by omega, if_pos e, e⟩
    · rcases tkF_sp (V := V) (s := s) (t := t) k (q + 1) with h | ⟨q2, h1, h2, h3, h4⟩
      · exact Or.inl ((if_neg e).trans h)
      · exact Or.inr ⟨q2, by omega, by omega, (if_neg e).trans h3, h4⟩
section TAK
variable {z : Nat}
theorem ap_fold {V : VV} (h : VI V) {s t q : Nat} (c0 : Int32) (hq : q < nqk V) (hs : s < nst V) (ht : t ≤ nw V) (hp : npk V < 60) (hh : hrd V q s (npk V) = false) {c : Nat} (hc : c < 144) : cLo V (fun i => tkS (apV V s t c0 (nI q)) q i (npk V + 1)) c (nst V) = lo (apV V s t c0 (nI q)) q c ∧ cHi V (fun i => tkS (apV V s t c0 (nI q)) q i (npk V + 1)) c (nst V) = hi (apV V s t c0 (nI q)) q c := by
  have h10 := h.hv.ns.2
  have hno := h.hv.no.2
  have hv := ap_hv (c := c0) (qv := nI q) h.hv hs ht hp
  have hf : ∀ p, p < npk V → V 50 p = nI q → sP V p ≠ s := fun p h1 h2 h3 => by
    rcases tkS_sp (W := V) (q := q) (s := s) (npk V) with ⟨-, -, w⟩ | ⟨-, -, -, -, -, w⟩
    · exact w p h1 ⟨h2, by rw [(h.hv.pk h1).1, h3]⟩
    · rw [w] at hh; exact absurd hh (by decide)
  have hx := fold_eq (W := apV V s t c0 (nI q)) hv (q := q) (c := c) hc (fun p p2 h1 h2 h3 h4 h5 => by
    rw [ap_np hp] at h1 h2
    by_cases e1 : p = npk V
    · by_cases e2 : p2 = npk V
      · rw [e1, e2]
      · exfalso
        rw [e1, ap_sPa (by omega), ap_sP e2] at h5
        rw [(ap_lt e2).2.2.2] at h4
        exact hf p2 (by omega) h4 h5.symm
    · rw [(ap_lt e1).2.2.2] at h3
      by_cases e2 : p2 = npk V
      · exfalso
        rw [e2, ap_sPa (by omega), ap_sP e1] at h5
        exact hf p (by omega) h3 h5
      · rw [(ap_lt e2).2.2.2] at h4
        rw [ap_sP e1, ap_sP e2] at h5
        exact h.un (by omega) (by omega) (h3.trans h4.symm) (by rw [h3]; exact nI_ne9 (by have := h.qk.2; omega)) h5) ⟨npk V, by rw [ap_np hp]; omega, ap_at.2.2.2⟩
  rw [ap_np hp, ap_ns] at hx
  obtain ⟨w1, w2⟩ := cLo_w (V := V) (V2 := apV V s t c0 (nI q)) (hd := fun i => tkS (apV V s t c0 (nI q)) q i (npk V + 1)) (c := c) (ap_ev.1 60 (by decide) (by decide)) (ap_ev.1 41 (by decide) (by decide)) ap_no ap_er ap_sl (nst V)
  rw [← w1, ← w2]
  exact hx
end TAK
