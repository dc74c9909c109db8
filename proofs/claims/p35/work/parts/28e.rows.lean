section ROX
variable {z : Nat}
theorem n9lt : ¬ (0 : Int32) ≤ -9 := by decide
theorem nIge {m : Nat} (h : m < 1000000) : (0 : Int32) ≤ nI m := by
  rw [show (0 : Int32) = nI 0 from rfl, nI_leI (by omega) (by omega)]; omega
/-- the readings changed : rows 25 against 44 -/
theorem VI.c44 {V V2 : VV} {E : List Nat} (hv : VI V) (hev : Ev [44, 46] E V V2) (hE : dj (24 :: viE) E = true) : VI V2 := by
  have h24 : V2 10 24 = V 10 24 := hev.2 24 (dj_x hE (by decide))
  refine hv.cg hev (by decide) ?_ (by rw [h24, nms_e h24]; exact hv.ms)
  rw [dj] at hE ⊢
  simp only [List.all_cons, Bool.and_eq_true] at hE
  exact hE.2
end ROX
