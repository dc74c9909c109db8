section QUA
variable {z : Nat}
def tqF (V : VV) (q : Nat) (b : Int32) : Int32 := if b = 0 then nI (cntF V q (npk V)) else if b = 1 then nI (ncl V q 144) else if b = 2 then iI (lwF V q 144) else if b = 3 then iI (hgF V q 144) else if nI (ncl V q 144) = 0 then 1 else 0
theorem VI.eqr {V V2 : VV} (h : VI V) (e : EqR V V2) : VI V2 := by
  refine h.cg (Ev.q e) (by decide) (by decide) ?_
  rw [nms_e (by rw [e 10 (by decide) (by decide)]), e 10 (by decide) (by decide)]; exact h.ms
theorem ncl_mono {V : VV} {q : Nat} {a : Nat} : ∀ b, a ≤ b → ncl V q a ≤ ncl V q b
  | 0, h => by have : a = 0 := by omega
               subst this; exact Nat.le_refl _
  | b + 1, h => by
    by_cases e : a = b + 1
    · subst e; exact Nat.le_refl _
    · have := ncl_mono (V := V) (q := q) (a := a) b (by omega)
      conv => rhs; unfold ncl
      split <;> omega
theorem clS_no {V : VV} {q : Nat} {i : Int32} (hno : ∀ k, k < ncl V q 144 → nI k ≠ i) : ∀ m, m ≤ 144 → clS V q i m (ncl V q (144 - m)) = -9
  | 0, _ => rfl
  | m + 1, h => by
    unfold clS
    have e : ncl V q (144 - m) = if lo V q (143 - m) ≤ hi V q (143 - m) then ncl V q (143 - m) + 1 else ncl V q (143 - m) := by
      rw [show 144 - m = (143 - m) + 1 by omega]; rfl
    rw [show 144 - (m + 1) = 143 - m by omega]
    have ih := clS_no hno m (by omega)
    have hm := ncl_mono (V := V) (q := q) (a := 144 - m) 144 (by omega)
    by_cases hh : lo V q (143 - m) ≤ hi V q (143 - m)
    · rw [if_pos hh] at e ⊢
      rw [if_neg (hno _ (by omega)), ← e]; exact ih
    · rw [if_neg hh] at e ⊢
      rw [← e]; exact ih
end QUA
