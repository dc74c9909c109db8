/-! the model's start -/
section MDI
variable {z : Nat}
theorem gR_sI {g : Hp} {n : Nm} {k : Nat} {v : Int32} : gR (setI g n k v) = gR g := rfl
theorem gN_sI {g : Hp} {n : Nm} {k : Nat} {v : Int32} : gN (setI g n k v) = gN g := rfl
theorem gR_nN {g : Hp} {n m : Nm} {l s j : Nat} : gR (newN g n l s) m j = if m = n then none else gR g m j := rfl
theorem gN_nN {g : Hp} {n m : Nm} {l s : Nat} : gN (newN g n l s) m = if m = n then l else gN g m := rfl
theorem gI_nN {g : Hp} {n m : Nm} {l s j : Nat} : gI (newN g n l s) m j = if m = n then 0 else gI g m j := rfl
end MDI
