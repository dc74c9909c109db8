/-! warn: the class -/
def PCl (m : Nm) : Prop := m.1 ≠ 29 ∧ m.1 ≠ 30
theorem PC.cl {j : Nat} {C : List Nat} (hC : noM C = true) {m : Nm} (h : PC j C m) : PCl m := by
  rcases h with h | h
  · rw [h]; exact ⟨show 0 ≠ 29 by decide, show 0 ≠ 30 by decide⟩
  · have := List.all_eq_true.mp hC m.1 h
    simpa [PCl] using this
theorem Fr.rf {P : Nm → Prop} (g : Hp) : Fr P g g := fun _ _ => ⟨rfl, rfl, rfl, Iff.rfl⟩
theorem Fr.cl {j : Nat} {C : List Nat} {g g2 : Hp} (h : Fr (PC j C) g g2) (hC : noM C = true) : Fr PCl g g2 := h.mono (fun _ hm => PC.cl hC hm)
theorem Fr.t {P : Nm → Prop} {a b c : Hp} (h : Fr P a b) (h2 : Fr P b c) : Fr P a c := (h.tr h2).mono (fun _ hm => hm.elim id id)
theorem Ch.cl {C : List Nat} {g g2 : Hp} (h : Ch C g g2) (hC : noM C = true) : Fr PCl g g2 := fun m hm => by
  have hn : m.1 ∉ C := noM_x hC (by unfold PCl at hm; omega)
  exact ⟨funext fun k => h.i hn, congrFun h.r m, congrFun h.n m, by rw [h.l]⟩
theorem bt_c {f f' : Nat → Bool} (h : ∀ k, 1 ≤ k → k < 5 → f k = f' k) : bt f = bt f' := by
  unfold bt
  rw [h 1 (by decide) (by decide), h 2 (by decide) (by decide), h 3 (by decide) (by decide), h 4 (by decide) (by decide)]
section WAC
variable {z : Nat}
theorem nms55 {V : VV} {k : Nat} {v : Int32} : nms (vs V 55 k v) = nms V := nms_e (by rw [vs_ne (by decide)])
end WAC
