section WRI
variable {z : Nat}
theorem in04 {b : Int32} (h : ¬ inB b 0 4 = 0) : ∃ k, k ≤ 4 ∧ b = nI k := by
  rw [show (4 : Int32) = nI 4 from rfl] at h
  exact inB_nIr (by omega) h
theorem in04n {b : Int32} (h : inB b 0 4 = 0) : b ≠ 0 ∧ b ≠ 1 ∧ b ≠ 2 ∧ b ≠ 3 ∧ b ≠ 4 := by
  refine ⟨?_, ?_, ?_, ?_, ?_⟩ <;> (intro e; subst e; revert h; decide)
def tellF (V : VV) (p : Nat) (b : Int32) : Int32 := if b = 0 then V 47 p else if b = 1 then V 48 p else if b = 2 then V 49 p else if b = 3 then kdF V p else V 50 p
theorem in03n {b : Int32} (h : ¬ inB b 0 3 = 0) : ∃ k, k ≤ 3 ∧ b = nI k := by
  rw [show (3 : Int32) = nI 3 from rfl] at h
  exact inB_nIr (by omega) h
theorem bindeta {α : Type} {A : Option (α × Hp)} : (A.bind fun q => some (q.1, q.2)) = A := by cases A <;> rfl
end WRI
