/-! pick: the model's end -/
theorem in1M {a : Int32} (h : ¬ inB a 1 1000000 = 0) : ∃ i, 1 ≤ i ∧ i ≤ 1000000 ∧ a = nI i := by
  obtain ⟨h1, h2⟩ := inB_ne h
  have h0 : ¬ a < 0 := fun w => by
    rw [Int32.lt_iff_toInt_lt] at w
    rw [Int32.le_iff_toInt_le] at h1
    have e0 : (0 : Int32).toInt = 0 := by decide
    have e1 : (1 : Int32).toInt = 1 := by decide
    omega
  obtain ⟨j, hj, rfl⟩ := nI_of (x := a) h0
  refine ⟨j, ?_, ?_, rfl⟩
  · rw [show (1 : Int32) = nI 1 from rfl, nI_leI (by omega) (by omega)] at h1; exact h1
  · rw [show (1000000 : Int32) = nI 1000000 from rfl, nI_leI (by omega) (by omega)] at h2; exact h2
def tlV (W : VV) (p : Nat) (s t : Nat) (c qv : Int32) : VV := vs (vs (vs (vs (vs W 47 p (nI s)) 48 p (nI t)) 49 p c) 50 p qv) 10 15 (nI (p + 1))
theorem tl_q {U W : VV} {s t : Nat} {c qv : Int32} (h : EqP U W) : EqR (apV U s t c qv) (tlV W (npk U) s t c qv) := fun r h1 h2 => by
  funext k
  unfold apV tlV
  simp only [vs]
  by_cases a1 : r = 10 ∧ k = 15
  · simp only [if_pos a1]
  by_cases a2 : r = 50 ∧ k = npk U
  · simp only [if_neg a1, if_pos a2]
  by_cases a3 : r = 49 ∧ k = npk U
  · simp only [if_neg a1, if_neg a2, if_pos a3]
  by_cases a4 : r = 48 ∧ k = npk U
  · simp only [if_neg a1, if_neg a2, if_neg a3, if_pos a4]
  by_cases a5 : r = 47 ∧ k = npk U
  · simp only [if_neg a1, if_neg a2, if_neg a3, if_neg a4, if_pos a5]
  simp only [if_neg a1, if_neg a2, if_neg a3, if_neg a4, if_neg a5]
  exact h r k h1 h2 (fun w => by
    rcases w with ⟨w | w | w, w2⟩
    · exact a5 ⟨w, w2⟩
    · exact a4 ⟨w, w2⟩
    · exact a2 ⟨w, w2⟩)
theorem tl_o {V W : VV} (h : EqP V W) : EqP (opV V) (vs (vs W 51 (nqk V) (nI (npk V))) 10 20 (nI (nqk V + 1))) := fun r k h1 h2 h3 => by
  rw [op_w.np] at h3
  unfold opV
  simp only [vs]
  by_cases a1 : r = 10 ∧ k = 20
  · simp only [if_pos a1]
  by_cases a2 : r = 51 ∧ k = nqk V
  · simp only [if_neg a1, if_pos a2]
  simp only [if_neg a1, if_neg a2]
  exact h r k h1 h2 h3
section PKN
variable {z : Nat}
end PKN
