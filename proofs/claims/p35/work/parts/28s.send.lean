section SEN
variable {z : Nat}
theorem sayL {m : Nat} (hm : m ≤ 2000000) : (400 : Int32) ≤ nI m ↔ 400 ≤ m := nI_leI (a := 400) (by decide) (by omega)
theorem ob {α β : Type} (a : α) (F : α → Option β) : (some a).bind F = F a := by
  apply Option.ext
  intro b
  exact Iff.rfl
end SEN
