/-! the calls that read, and the plain ones that write -/
section SIM
variable {g : Hp} {V : VV} {z : Nat}
theorem kp_b (V : VV) : kp V ≤ 400 ∧ kp V ≤ nms V := by unfold kp; split <;> omega
theorem clOf {a : Int32} (hb : ¬ inB a 0 143 = 0) : ∃ i, i < 144 ∧ a = nI i := by
  rw [show (143 : Int32) = nI 143 from rfl] at hb
  obtain ⟨i, h1, h2⟩ := inB_nIr (by omega) hb
  exact ⟨i, by omega, h2⟩
theorem nI_ne9 {n : Nat} (h : n < 1000000) : nI n ≠ -9 := by
  intro e
  rw [nI_iI, show (-9 : Int32) = iI (-9) from by decide, iI_eq (by omega) (by omega) (by omega) (by omega)] at e
  omega
end SIM
