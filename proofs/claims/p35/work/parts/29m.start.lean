/-! the start is sound -/
section STI
theorem gR_sR {g : Hp} {n m : Nm} {k j : Nat} {v : Option Nm} : gR (setR g n k v) m j = if m = n ∧ j = k then v else gR g m j := rfl
theorem gN_sR {g : Hp} {n : Nm} {k : Nat} {v : Option Nm} : gN (setR g n k v) = gN g := rfl
theorem gI_sR {g : Hp} {n : Nm} {k : Nat} {v : Option Nm} : gI (setR g n k v) = gI g := rfl
theorem lst_e {g : Hp} {j k : Nat} : lst g j k = setR (setR (setI (newN g (0, j) 0 3) (0, j) 0 0) (0, j) 1 (some (17, 0))) (9, 0) k (some (0, j)) := rfl
theorem gA1_e : gA1 = setR (newN (newN (newN gZ (9, 0) 0 14) (8, 0) 0 1) (20, 0) 144 144) (8, 0) 0 (some (20, 0)) := rfl
theorem gA2_R {I : Nm → Nat → Int32} : gR (gA2 I) = gR gA1 := rfl
theorem gA2_N {I : Nm → Nat → Int32} : gN (gA2 I) = gN gA1 := rfl
theorem gA2_I {I : Nm → Nat → Int32} : gI (gA2 I) = I := rfl
theorem gA3_e {I : Nm → Nat → Int32} : gA3 I = lst (lst (lst (lst (lst (setR (gA2 I) (9, 0) 0 (some (8, 0))) 0 1) 1 2) 2 3) 3 4) 4 5 := rfl
theorem gA4_e {I : Nm → Nat → Int32} : gA4 I = setR (setI (setR (newN (setR (newN (newN (gA3 I) (1, 0) 0 6) (21, 0) 144 144) (1, 0) 0 (some (21, 0))) (22, 0) 144 144) (1, 0) 1 (some (22, 0))) (1, 0) 5 (-9)) (9, 0) 6 (some (1, 0)) := rfl
theorem gA5_e {I : Nm → Nat → Int32} : gA5 I = setR (setI (setI (setI (setI (setI (setI (newN (gA4 I) (23, 0) 6 6) (23, 0) 0 0) (23, 0) 1 4) (23, 0) 2 8) (23, 0) 3 12) (23, 0) 4 16) (23, 0) 5 61) (9, 0) 7 (some (23, 0)) := rfl
theorem gA6_e {I : Nm → Nat → Int32} : gA6 I = setI (setR (newN (gA5 I) (24, 0) 6 6) (9, 0) 8 (some (24, 0))) (9, 0) 11 2 := rfl
theorem gZ_R {m : Nm} {j : Nat} : gR gZ m j = none := rfl
theorem gZ_N {m : Nm} : gN gZ m = 0 := rfl
theorem A6_R {I : Nm → Nat → Int32} {m : Nm} {j : Nat} : gR (gA6 I) m j = if m = (9, 0) ∧ j = 8 then some (24, 0) else if m = (24, 0) then none else if m = (9, 0) ∧ j = 7 then some (23, 0) else if m = (23, 0) then none else if m = (9, 0) ∧ j = 6 then some (1, 0) else if m = (1, 0) ∧ j = 1 then some (22, 0) else if m = (22, 0) then none else if m = (1, 0) ∧ j = 0 then some (21, 0) else if m = (21, 0) then none else if m = (1, 0) then none else if m = (9, 0) ∧ j = 5 then some (0, 4) else if m = (0, 4) ∧ j = 1 then some (17, 0) else if m = (0, 4) then none else if m = (9, 0) ∧ j = 4 then some (0, 3) else if m = (0, 3) ∧ j = 1 then some (17, 0) else if m = (0, 3) then none else if m = (9, 0) ∧ j = 3 then some (0, 2) else if m = (0, 2) ∧ j = 1 then some (17, 0) else if m = (0, 2) then none else if m = (9, 0) ∧ j = 2 then some (0, 1) else if m = (0, 1) ∧ j = 1 then some (17, 0) else if m = (0, 1) then none else if m = (9, 0) ∧ j = 1 then some (0, 0) else if m = (0, 0) ∧ j = 1 then some (17, 0) else if m = (0, 0) then none else if m = (9, 0) ∧ j = 0 then some (8, 0) else if m = (8, 0) ∧ j = 0 then some (20, 0) else if m = (20, 0) then none else if m = (8, 0) then none else if m = (9, 0) then none else none := by
  rw [gA6_e, gR_sI, gR_sR, gR_nN, gA5_e, gR_sR, gR_sI, gR_sI, gR_sI, gR_sI, gR_sI, gR_sI, gR_nN, gA4_e, gR_sR, gR_sI, gR_sR, gR_nN, gR_sR, gR_nN, gR_nN, gA3_e, lst_e, gR_sR, gR_sR, gR_sI, gR_nN, lst_e, gR_sR, gR_sR, gR_sI, gR_nN, lst_e, gR_sR, gR_sR, gR_sI, gR_nN, lst_e, gR_sR, gR_sR, gR_sI, gR_nN, lst_e, gR_sR, gR_sR, gR_sI, gR_nN, gR_sR, gA2_R, gA1_e, gR_sR, gR_nN, gR_nN, gR_nN, gZ_R]
theorem A6_N {I : Nm → Nat → Int32} {m : Nm} : gN (gA6 I) m = if m = (24, 0) then 6 else if m = (23, 0) then 6 else if m = (22, 0) then 144 else if m = (21, 0) then 144 else if m = (1, 0) then 0 else if m = (0, 4) then 0 else if m = (0, 3) then 0 else if m = (0, 2) then 0 else if m = (0, 1) then 0 else if m = (0, 0) then 0 else if m = (20, 0) then 144 else if m = (8, 0) then 0 else if m = (9, 0) then 0 else 0 := by
  rw [gA6_e, gN_sI, gN_sR, gN_nN, gA5_e, gN_sR, gN_sI, gN_sI, gN_sI, gN_sI, gN_sI, gN_sI, gN_nN, gA4_e, gN_sR, gN_sI, gN_sR, gN_nN, gN_sR, gN_nN, gN_nN, gA3_e, lst_e, gN_sR, gN_sR, gN_sI, gN_nN, lst_e, gN_sR, gN_sR, gN_sI, gN_nN, lst_e, gN_sR, gN_sR, gN_sI, gN_nN, lst_e, gN_sR, gN_sR, gN_sI, gN_nN, lst_e, gN_sR, gN_sR, gN_sI, gN_nN, gN_sR, gA2_N, gA1_e, gN_sR, gN_nN, gN_nN, gN_nN, gZ_N]
theorem A6_I {I : Nm → Nat → Int32} {m : Nm} {j : Nat} : gI (gA6 I) m j = if m = (9, 0) ∧ j = 11 then 2 else if m = (24, 0) then 0 else if m = (23, 0) ∧ j = 5 then 61 else if m = (23, 0) ∧ j = 4 then 16 else if m = (23, 0) ∧ j = 3 then 12 else if m = (23, 0) ∧ j = 2 then 8 else if m = (23, 0) ∧ j = 1 then 4 else if m = (23, 0) ∧ j = 0 then 0 else if m = (23, 0) then 0 else if m = (1, 0) ∧ j = 5 then -9 else if m = (22, 0) then 0 else if m = (21, 0) then 0 else if m = (1, 0) then 0 else if m = (0, 4) ∧ j = 0 then 0 else if m = (0, 4) then 0 else if m = (0, 3) ∧ j = 0 then 0 else if m = (0, 3) then 0 else if m = (0, 2) ∧ j = 0 then 0 else if m = (0, 2) then 0 else if m = (0, 1) ∧ j = 0 then 0 else if m = (0, 1) then 0 else if m = (0, 0) ∧ j = 0 then 0 else if m = (0, 0) then 0 else I m j := by
  rw [gA6_e, gI_set, gI_sR, gI_nN, gA5_e, gI_sR, gI_set, gI_set, gI_set, gI_set, gI_set, gI_set, gI_nN, gA4_e, gI_sR, gI_set, gI_sR, gI_nN, gI_sR, gI_nN, gI_nN, gA3_e, lst_e, gI_sR, gI_sR, gI_set, gI_nN, lst_e, gI_sR, gI_sR, gI_set, gI_nN, lst_e, gI_sR, gI_sR, gI_set, gI_nN, lst_e, gI_sR, gI_sR, gI_set, gI_nN, lst_e, gI_sR, gI_sR, gI_set, gI_nN, gI_sR, gA2_I]
theorem A6_c {I : Nm → Nat → Int32} (i : Nat) : gR (gA6 I) (9, 0) i = cRef i := by
  rw [A6_R]
  by_cases h : i < 9
  · rcases (by omega : i = 0 ∨ i = 1 ∨ i = 2 ∨ i = 3 ∨ i = 4 ∨ i = 5 ∨ i = 6 ∨ i = 7 ∨ i = 8) with rfl | rfl | rfl | rfl | rfl | rfl | rfl | rfl | rfl
    all_goals simp [cRef]
  · obtain ⟨k, rfl⟩ : ∃ k, i = k + 9 := ⟨i - 9, by omega⟩
    simp [cRef]
theorem A6_n {I : Nm → Nat → Int32} {d : Nat} (h : 40 ≤ d) : gN (gA6 I) (d, 0) = 0 := by
  rw [A6_N]
  have e : ∀ c i, c < 40 → ¬ ((d, 0) : Nm) = (c, i) := fun c i hc w => by have := congrArg Prod.fst w; simp at this; omega
  simp only [e 24 0 (by decide), e 23 0 (by decide), e 22 0 (by decide), e 21 0 (by decide), e 1 0 (by decide), e 0 0 (by decide), e 0 1 (by decide), e 0 2 (by decide), e 0 3 (by decide), e 0 4 (by decide), e 20 0 (by decide), e 8 0 (by decide), e 9 0 (by decide), if_false]
end STI
