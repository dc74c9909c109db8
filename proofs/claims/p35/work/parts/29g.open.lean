section OPE
variable {z : Nat}
theorem hrd0 {V : VV} (h : VI V) {i : Nat} : ∀ p, p ≤ npk V → tkS V (nqk V) i p = -1 ∧ cntF V (nqk V) p = 0
  | 0, _ => ⟨rfl, rfl⟩
  | p + 1, hp => by
    have h5 := h.qk.2
    obtain ⟨i1, i2⟩ := hrd0 h (i := i) p (by omega)
    have hne : V 50 p ≠ nI (nqk V) := by
      rcases (h.pq (show p < npk V by omega)).2.2.2 with e | ⟨q, hq, e⟩
      · rw [e]; exact fun w => nI_ne9 (by omega) w.symm
      · rw [e]; exact fun w => by have := nI_inj2 w (by omega) (by omega); omega
    unfold tkS cntF
    rw [if_neg (fun w => hne w.1), if_neg hne]
    exact ⟨i1, i2⟩
end OPE
