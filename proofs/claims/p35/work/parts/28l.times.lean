section TIM
variable {z : Nat}
theorem holds8 (hz : 2000 ≤ z) {g : Hp} {V : VV} (h : IN g V) {q d : Nat} (hq : q < nqk V) (hd : d < 144) (c : Int32) : ∃ g2, f_X8_holds z (some (9, 0)) (nI q) (nI d) c g = some ((if inB c (iI (lo V q d)) (iI (hi V q d)) = 0 then 0 else 1), g2) ∧ Ch [1, 21, 22] g g2 ∧ IN g2 V := by
  have h1 : ¬ inB (nI q) 0 (V 10 20 - 1) = 0 := by have := h.v.qk; rw [this.1, inB_in hq (by omega)]; decide
  have h2 := cl_in hd
  obtain ⟨g2, a1, a2, a3, a4, a5, a6, a7⟩ := heapOf8 hz h hq
  obtain ⟨f1, f2⟩ := a4 d hd
  refine ⟨g2, ?_, a2, a3⟩
  simp only [f_X8_holds, ick_X, isQuake8 h, Option.bind_some, if_neg h1, cell8, if_neg h2, a1, gR_X, show gR g2 (1, 0) 0 = some (21, 0) from a3.b1.1.2.2.1, show gR g2 (1, 0) 1 = some (22, 0) from a3.b1.1.2.2.2, ald_X a3.b1.2.2.1 (by decide) (by decide) hd (by decide), ald_X a3.b1.2.2.2.1 (by decide) (by decide) hd (by decide), f1, f2, in8]
  split <;> rfl

end TIM
