section TOW
variable {z : Nat}
theorem mkO_X {g : Hp} {c n : Nat} (h : (c, n) ∉ gL g) : mkO (c, n) c g = some (some (c, n), newN g (c, n) 0 (flds c).length) := by
  unfold mkO
  exact if_pos ⟨rfl, h⟩
theorem lsz_e {g : Hp} {j n : Nat} (h : gI g (0, j) 2 = nI n) (hn : n < 2147483648) : lsz g j = n := by unfold lsz; rw [h, nI_cl hn]
theorem gIn {g : Hp} {m n : Nm} {l s k : Nat} (h : m ≠ n) : gI (newN g n l s) m k = gI g m k := by show (if m = n then 0 else _) = _; rw [if_neg h]
theorem gRn {g : Hp} {m n : Nm} {l s k : Nat} (h : m ≠ n) : gR (newN g n l s) m k = gR g m k := by show (if m = n then none else _) = _; rw [if_neg h]
end TOW
