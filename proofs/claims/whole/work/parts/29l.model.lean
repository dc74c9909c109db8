/-! the model's start -/
section MDI
variable {z : Nat}
def arr (g : Hp) (c l k : Nat) : Hp := setR (newN g (c, 0) l l) (10, 0) k (some (c, 0))
theorem mkA {α : Type} {g : Hp} {c l k : Nat} {x : Int32} {F : Hp → Option α} (hx : x = nI l) (h1 : 20 ≤ c) (h2 : c < 60) (hl : l ≤ 100000) (hn : (c, 0) ∉ gL g) : ((mkI (c, 0) x g).bind fun q => (putR (some (10, 0)) 10 k q.1 q.2).bind F) = F (arr g c l k) := by
  rw [hx, mkI_X h1 h2 hn hl]
  simp only [ob, pR_X]
  rfl
theorem mkAZ {α : Type} {g : Hp} {c l k : Nat} {x : Int32} {F : Hp → Option α} (hx : x = nI l) (h1 : 60 ≤ c) (hl : l ≤ 100000) (hn : (c, 0) ∉ gL g) : ((mkZ (c, 0) x g).bind fun q => (putR (some (10, 0)) 10 k q.1 q.2).bind F) = F (arr g c l k) := by
  have e : (nI l).toNatClampNeg = l := nI_cl (by omega)
  have hz : mkZ (c, 0) (nI l) g = some (some (c, 0), newN g (c, 0) l l) := by
    have : 60 ≤ c ∧ (c, 0) ∉ gL g ∧ ¬ nI l < 0 ∧ (nI l).toNatClampNeg ≤ 100000 := ⟨h1, hn, by rw [show (0 : Int32) = nI 0 from rfl, nI_ltI (by omega) (by omega)]; omega, by omega⟩
    unfold mkZ
    refine (if_pos this).trans ?_
    rw [e]
  rw [hx, hz]
  simp only [ob, pR_X]
  rfl
def gB0 (I : Nm → Nat → Int32) : Hp := setI (setI (arr (newN (gA6 I) (10, 0) 0 27) 40 6 1) (10, 0) 3 100) (10, 0) 4 2
theorem gL_B0 (I : Nm → Nat → Int32) : gL (gB0 I) = [(9, 0), (8, 0), (20, 0), (0, 0), (0, 1), (0, 2), (0, 3), (0, 4), (1, 0), (21, 0), (22, 0), (23, 0), (24, 0), (10, 0), (40, 0)] := rfl
def gB1 (I : Nm → Nat → Int32) : Hp := arr (gB0 I) 41 10 7
theorem gL_B1 (I : Nm → Nat → Int32) : gL (gB1 I) = [(9, 0), (8, 0), (20, 0), (0, 0), (0, 1), (0, 2), (0, 3), (0, 4), (1, 0), (21, 0), (22, 0), (23, 0), (24, 0), (10, 0), (40, 0), (41, 0)] := by
  show gL (gB0 I) ++ [(41, 0)] = _
  rw [gL_B0]
  rfl
def gB2 (I : Nm → Nat → Int32) : Hp := arr (gB1 I) 60 10 8
theorem gL_B2 (I : Nm → Nat → Int32) : gL (gB2 I) = [(9, 0), (8, 0), (20, 0), (0, 0), (0, 1), (0, 2), (0, 3), (0, 4), (1, 0), (21, 0), (22, 0), (23, 0), (24, 0), (10, 0), (40, 0), (41, 0), (60, 0)] := by
  show gL (gB1 I) ++ [(60, 0)] = _
  rw [gL_B1]
  rfl
def gB3 (I : Nm → Nat → Int32) : Hp := arr (gB2 I) 42 6 10
theorem gL_B3 (I : Nm → Nat → Int32) : gL (gB3 I) = [(9, 0), (8, 0), (20, 0), (0, 0), (0, 1), (0, 2), (0, 3), (0, 4), (1, 0), (21, 0), (22, 0), (23, 0), (24, 0), (10, 0), (40, 0), (41, 0), (60, 0), (42, 0)] := by
  show gL (gB2 I) ++ [(42, 0)] = _
  rw [gL_B2]
  rfl
def gB4 (I : Nm → Nat → Int32) : Hp := arr (gB3 I) 43 10 11
theorem gL_B4 (I : Nm → Nat → Int32) : gL (gB4 I) = [(9, 0), (8, 0), (20, 0), (0, 0), (0, 1), (0, 2), (0, 3), (0, 4), (1, 0), (21, 0), (22, 0), (23, 0), (24, 0), (10, 0), (40, 0), (41, 0), (60, 0), (42, 0), (43, 0)] := by
  show gL (gB3 I) ++ [(43, 0)] = _
  rw [gL_B3]
  rfl
def gB5 (I : Nm → Nat → Int32) : Hp := arr (gB4 I) 44 300 12
theorem gL_B5 (I : Nm → Nat → Int32) : gL (gB5 I) = [(9, 0), (8, 0), (20, 0), (0, 0), (0, 1), (0, 2), (0, 3), (0, 4), (1, 0), (21, 0), (22, 0), (23, 0), (24, 0), (10, 0), (40, 0), (41, 0), (60, 0), (42, 0), (43, 0), (44, 0)] := by
  show gL (gB4 I) ++ [(44, 0)] = _
  rw [gL_B4]
  rfl
def gB6 (I : Nm → Nat → Int32) : Hp := arr (gB5 I) 45 6 13
theorem gL_B6 (I : Nm → Nat → Int32) : gL (gB6 I) = [(9, 0), (8, 0), (20, 0), (0, 0), (0, 1), (0, 2), (0, 3), (0, 4), (1, 0), (21, 0), (22, 0), (23, 0), (24, 0), (10, 0), (40, 0), (41, 0), (60, 0), (42, 0), (43, 0), (44, 0), (45, 0)] := by
  show gL (gB5 I) ++ [(45, 0)] = _
  rw [gL_B5]
  rfl
def gB7 (I : Nm → Nat → Int32) : Hp := arr (gB6 I) 46 30 14
theorem gL_B7 (I : Nm → Nat → Int32) : gL (gB7 I) = [(9, 0), (8, 0), (20, 0), (0, 0), (0, 1), (0, 2), (0, 3), (0, 4), (1, 0), (21, 0), (22, 0), (23, 0), (24, 0), (10, 0), (40, 0), (41, 0), (60, 0), (42, 0), (43, 0), (44, 0), (45, 0), (46, 0)] := by
  show gL (gB6 I) ++ [(46, 0)] = _
  rw [gL_B6]
  rfl
def gB8 (I : Nm → Nat → Int32) : Hp := arr (gB7 I) 47 60 16
theorem gL_B8 (I : Nm → Nat → Int32) : gL (gB8 I) = [(9, 0), (8, 0), (20, 0), (0, 0), (0, 1), (0, 2), (0, 3), (0, 4), (1, 0), (21, 0), (22, 0), (23, 0), (24, 0), (10, 0), (40, 0), (41, 0), (60, 0), (42, 0), (43, 0), (44, 0), (45, 0), (46, 0), (47, 0)] := by
  show gL (gB7 I) ++ [(47, 0)] = _
  rw [gL_B7]
  rfl
def gB9 (I : Nm → Nat → Int32) : Hp := arr (gB8 I) 48 60 17
theorem gL_B9 (I : Nm → Nat → Int32) : gL (gB9 I) = [(9, 0), (8, 0), (20, 0), (0, 0), (0, 1), (0, 2), (0, 3), (0, 4), (1, 0), (21, 0), (22, 0), (23, 0), (24, 0), (10, 0), (40, 0), (41, 0), (60, 0), (42, 0), (43, 0), (44, 0), (45, 0), (46, 0), (47, 0), (48, 0)] := by
  show gL (gB8 I) ++ [(48, 0)] = _
  rw [gL_B8]
  rfl
def gB10 (I : Nm → Nat → Int32) : Hp := arr (gB9 I) 49 60 18
theorem gL_B10 (I : Nm → Nat → Int32) : gL (gB10 I) = [(9, 0), (8, 0), (20, 0), (0, 0), (0, 1), (0, 2), (0, 3), (0, 4), (1, 0), (21, 0), (22, 0), (23, 0), (24, 0), (10, 0), (40, 0), (41, 0), (60, 0), (42, 0), (43, 0), (44, 0), (45, 0), (46, 0), (47, 0), (48, 0), (49, 0)] := by
  show gL (gB9 I) ++ [(49, 0)] = _
  rw [gL_B9]
  rfl
def gB11 (I : Nm → Nat → Int32) : Hp := arr (gB10 I) 50 60 19
theorem gL_B11 (I : Nm → Nat → Int32) : gL (gB11 I) = [(9, 0), (8, 0), (20, 0), (0, 0), (0, 1), (0, 2), (0, 3), (0, 4), (1, 0), (21, 0), (22, 0), (23, 0), (24, 0), (10, 0), (40, 0), (41, 0), (60, 0), (42, 0), (43, 0), (44, 0), (45, 0), (46, 0), (47, 0), (48, 0), (49, 0), (50, 0)] := by
  show gL (gB10 I) ++ [(50, 0)] = _
  rw [gL_B10]
  rfl
def gB12 (I : Nm → Nat → Int32) : Hp := arr (gB11 I) 51 5 21
theorem gL_B12 (I : Nm → Nat → Int32) : gL (gB12 I) = [(9, 0), (8, 0), (20, 0), (0, 0), (0, 1), (0, 2), (0, 3), (0, 4), (1, 0), (21, 0), (22, 0), (23, 0), (24, 0), (10, 0), (40, 0), (41, 0), (60, 0), (42, 0), (43, 0), (44, 0), (45, 0), (46, 0), (47, 0), (48, 0), (49, 0), (50, 0), (51, 0)] := by
  show gL (gB11 I) ++ [(51, 0)] = _
  rw [gL_B11]
  rfl
def gB13 (I : Nm → Nat → Int32) : Hp := arr (gB12 I) 52 144 22
theorem gL_B13 (I : Nm → Nat → Int32) : gL (gB13 I) = [(9, 0), (8, 0), (20, 0), (0, 0), (0, 1), (0, 2), (0, 3), (0, 4), (1, 0), (21, 0), (22, 0), (23, 0), (24, 0), (10, 0), (40, 0), (41, 0), (60, 0), (42, 0), (43, 0), (44, 0), (45, 0), (46, 0), (47, 0), (48, 0), (49, 0), (50, 0), (51, 0), (52, 0)] := by
  show gL (gB12 I) ++ [(52, 0)] = _
  rw [gL_B12]
  rfl
def gB14 (I : Nm → Nat → Int32) : Hp := arr (gB13 I) 53 144 23
theorem gL_B14 (I : Nm → Nat → Int32) : gL (gB14 I) = [(9, 0), (8, 0), (20, 0), (0, 0), (0, 1), (0, 2), (0, 3), (0, 4), (1, 0), (21, 0), (22, 0), (23, 0), (24, 0), (10, 0), (40, 0), (41, 0), (60, 0), (42, 0), (43, 0), (44, 0), (45, 0), (46, 0), (47, 0), (48, 0), (49, 0), (50, 0), (51, 0), (52, 0), (53, 0)] := by
  show gL (gB13 I) ++ [(53, 0)] = _
  rw [gL_B13]
  rfl
def gB15 (I : Nm → Nat → Int32) : Hp := arr (gB14 I) 54 1600 25
theorem gL_B15 (I : Nm → Nat → Int32) : gL (gB15 I) = [(9, 0), (8, 0), (20, 0), (0, 0), (0, 1), (0, 2), (0, 3), (0, 4), (1, 0), (21, 0), (22, 0), (23, 0), (24, 0), (10, 0), (40, 0), (41, 0), (60, 0), (42, 0), (43, 0), (44, 0), (45, 0), (46, 0), (47, 0), (48, 0), (49, 0), (50, 0), (51, 0), (52, 0), (53, 0), (54, 0)] := by
  show gL (gB14 I) ++ [(54, 0)] = _
  rw [gL_B14]
  rfl
def gB16 (I : Nm → Nat → Int32) : Hp := arr (gB15 I) 55 150 26
theorem gL_B16 (I : Nm → Nat → Int32) : gL (gB16 I) = [(9, 0), (8, 0), (20, 0), (0, 0), (0, 1), (0, 2), (0, 3), (0, 4), (1, 0), (21, 0), (22, 0), (23, 0), (24, 0), (10, 0), (40, 0), (41, 0), (60, 0), (42, 0), (43, 0), (44, 0), (45, 0), (46, 0), (47, 0), (48, 0), (49, 0), (50, 0), (51, 0), (52, 0), (53, 0), (54, 0), (55, 0)] := by
  show gL (gB15 I) ++ [(55, 0)] = _
  rw [gL_B15]
  rfl
theorem arr_R {g : Hp} {c l k j : Nat} (h : c ≠ 10) : gR (arr g c l k) (10, 0) j = if j = k then some (c, 0) else gR g (10, 0) j := by
  show (if (10, 0) = (10, 0) ∧ j = k then some (c, 0) else if (10, 0) = (c, 0) then none else gR g (10, 0) j) = _
  have e : ¬ ((10, 0) : Nm) = (c, 0) := fun w => h (congrArg Prod.fst w).symm
  rw [if_neg e]
  by_cases w : j = k
  · rw [if_pos ⟨rfl, w⟩, if_pos w]
  · rw [if_neg (fun q => w q.2), if_neg w]
theorem arr_N {g : Hp} {c l k d : Nat} : gN (arr g c l k) (d, 0) = if d = c then l else gN g (d, 0) := by
  show (if (d, 0) = (c, 0) then l else gN g (d, 0)) = _
  by_cases w : d = c
  · rw [if_pos (by rw [w]), if_pos w]
  · rw [if_neg (fun q => w (congrArg Prod.fst q)), if_neg w]
theorem arr_I {g : Hp} {c l k d j : Nat} : gI (arr g c l k) (d, 0) j = if d = c then 0 else gI g (d, 0) j := by
  show (if (d, 0) = (c, 0) then 0 else gI g (d, 0) j) = _
  by_cases w : d = c
  · rw [if_pos (by rw [w]), if_pos w]
  · rw [if_neg (fun q => w (congrArg Prod.fst q)), if_neg w]
theorem arr_F {g : Hp} {c l k : Nat} (h : c = 10 ∨ 40 ≤ c) : Fr (fun m => m.2 = 0 ∧ (m.1 = 10 ∨ 40 ≤ m.1)) g (arr g c l k) := ((Fr.nN (g := g) (n := (c, 0)) (l := l) (s := l)).tr (Fr.sR (n := (10, 0)) (k := k) (v := some (c, 0)))).mono (fun m hm => by
  rcases hm with w | w
  · rw [w]; exact ⟨rfl, h⟩
  · rw [w]; exact ⟨rfl, Or.inl rfl⟩)
theorem gR_sI {g : Hp} {n : Nm} {k : Nat} {v : Int32} : gR (setI g n k v) = gR g := rfl
theorem gN_sI {g : Hp} {n : Nm} {k : Nat} {v : Int32} : gN (setI g n k v) = gN g := rfl
theorem gR_nN {g : Hp} {n m : Nm} {l s j : Nat} : gR (newN g n l s) m j = if m = n then none else gR g m j := rfl
theorem gN_nN {g : Hp} {n m : Nm} {l s : Nat} : gN (newN g n l s) m = if m = n then l else gN g m := rfl
theorem gI_nN {g : Hp} {n m : Nm} {l s j : Nat} : gI (newN g n l s) m j = if m = n then 0 else gI g m j := rfl
theorem b0_e {I : Nm → Nat → Int32} : gB0 I = setI (setI (arr (newN (gA6 I) (10, 0) 0 27) 40 6 1) (10, 0) 3 100) (10, 0) 4 2 := rfl
theorem b0_R {I : Nm → Nat → Int32} {j : Nat} : gR (gB0 I) (10, 0) j = if j = 1 then some (40, 0) else none := by
  rw [b0_e, gR_sI, gR_sI, arr_R (by decide), gR_nN, if_pos rfl]
theorem b0_N {I : Nm → Nat → Int32} {d : Nat} (h : 40 ≤ d) : gN (gB0 I) (d, 0) = if d = 40 then 6 else gN (gA6 I) (d, 0) := by
  rw [b0_e, gN_sI, gN_sI, arr_N, gN_nN]
  have e : ¬ ((d, 0) : Nm) = (10, 0) := fun w => by have := congrArg Prod.fst w; simp at this; omega
  rw [if_neg e]
theorem b0_I {I : Nm → Nat → Int32} {d j : Nat} : gI (gB0 I) (d, 0) j = if d = 10 then (if j = 4 then 2 else if j = 3 then 100 else 0) else if d = 40 then 0 else gI (gA6 I) (d, 0) j := by
  rw [b0_e, gI_set, gI_set, arr_I, gI_nN]
  by_cases w : d = 10
  · subst w; simp
  · simp [w]
theorem b0_F {I : Nm → Nat → Int32} : Fr (fun m => m.2 = 0 ∧ (m.1 = 10 ∨ 40 ≤ m.1)) (gA6 I) (gB0 I) := (((((Fr.nN (g := gA6 I) (n := (10, 0)) (l := 0) (s := 27)).tr (arr_F (c := 40) (l := 6) (k := 1) (Or.inr (by decide)))).tr (Fr.sI (n := (10, 0)) (k := 3) (v := 100))).tr (Fr.sI (n := (10, 0)) (k := 4) (v := 2)))).mono (fun m hm => by
  rcases hm with ((w | w) | w) | w
  · rw [w]; exact ⟨rfl, Or.inl rfl⟩
  · exact w
  · rw [w]; exact ⟨rfl, Or.inl rfl⟩
  · rw [w]; exact ⟨rfl, Or.inl rfl⟩)
theorem b1_e {I : Nm → Nat → Int32} : gB1 I = arr (gB0 I) 41 10 7 := rfl
theorem b2_e {I : Nm → Nat → Int32} : gB2 I = arr (gB1 I) 60 10 8 := rfl
theorem b3_e {I : Nm → Nat → Int32} : gB3 I = arr (gB2 I) 42 6 10 := rfl
theorem b4_e {I : Nm → Nat → Int32} : gB4 I = arr (gB3 I) 43 10 11 := rfl
theorem b5_e {I : Nm → Nat → Int32} : gB5 I = arr (gB4 I) 44 300 12 := rfl
theorem b6_e {I : Nm → Nat → Int32} : gB6 I = arr (gB5 I) 45 6 13 := rfl
theorem b7_e {I : Nm → Nat → Int32} : gB7 I = arr (gB6 I) 46 30 14 := rfl
theorem b8_e {I : Nm → Nat → Int32} : gB8 I = arr (gB7 I) 47 60 16 := rfl
theorem b9_e {I : Nm → Nat → Int32} : gB9 I = arr (gB8 I) 48 60 17 := rfl
theorem b10_e {I : Nm → Nat → Int32} : gB10 I = arr (gB9 I) 49 60 18 := rfl
theorem b11_e {I : Nm → Nat → Int32} : gB11 I = arr (gB10 I) 50 60 19 := rfl
theorem b12_e {I : Nm → Nat → Int32} : gB12 I = arr (gB11 I) 51 5 21 := rfl
theorem b13_e {I : Nm → Nat → Int32} : gB13 I = arr (gB12 I) 52 144 22 := rfl
theorem b14_e {I : Nm → Nat → Int32} : gB14 I = arr (gB13 I) 53 144 23 := rfl
theorem b15_e {I : Nm → Nat → Int32} : gB15 I = arr (gB14 I) 54 1600 25 := rfl
theorem b16_e {I : Nm → Nat → Int32} : gB16 I = arr (gB15 I) 55 150 26 := rfl
theorem bN_R {I : Nm → Nat → Int32} {j : Nat} : gR (gB16 I) (10, 0) j = mRef j := by
  rw [b16_e, arr_R (show 55 ≠ 10 by decide), b15_e, arr_R (show 54 ≠ 10 by decide), b14_e, arr_R (show 53 ≠ 10 by decide), b13_e, arr_R (show 52 ≠ 10 by decide), b12_e, arr_R (show 51 ≠ 10 by decide), b11_e, arr_R (show 50 ≠ 10 by decide), b10_e, arr_R (show 49 ≠ 10 by decide), b9_e, arr_R (show 48 ≠ 10 by decide), b8_e, arr_R (show 47 ≠ 10 by decide), b7_e, arr_R (show 46 ≠ 10 by decide), b6_e, arr_R (show 45 ≠ 10 by decide), b5_e, arr_R (show 44 ≠ 10 by decide), b4_e, arr_R (show 43 ≠ 10 by decide), b3_e, arr_R (show 42 ≠ 10 by decide), b2_e, arr_R (show 60 ≠ 10 by decide), b1_e, arr_R (show 41 ≠ 10 by decide), b0_R]
  by_cases h : j < 27
  · rcases (by omega : j = 0 ∨ j = 1 ∨ j = 2 ∨ j = 3 ∨ j = 4 ∨ j = 5 ∨ j = 6 ∨ j = 7 ∨ j = 8 ∨ j = 9 ∨ j = 10 ∨ j = 11 ∨ j = 12 ∨ j = 13 ∨ j = 14 ∨ j = 15 ∨ j = 16 ∨ j = 17 ∨ j = 18 ∨ j = 19 ∨ j = 20 ∨ j = 21 ∨ j = 22 ∨ j = 23 ∨ j = 24 ∨ j = 25 ∨ j = 26) with rfl | rfl | rfl | rfl | rfl | rfl | rfl | rfl | rfl | rfl | rfl | rfl | rfl | rfl | rfl | rfl | rfl | rfl | rfl | rfl | rfl | rfl | rfl | rfl | rfl | rfl | rfl
    all_goals simp [mRef]
  · obtain ⟨i, rfl⟩ : ∃ i, j = i + 27 := ⟨j - 27, by omega⟩
    simp [mRef]
theorem bN_N {I : Nm → Nat → Int32} {d : Nat} (h : 40 ≤ d) : gN (gB16 I) (d, 0) = if d = 55 then 150 else if d = 54 then 1600 else if d = 53 then 144 else if d = 52 then 144 else if d = 51 then 5 else if d = 50 then 60 else if d = 49 then 60 else if d = 48 then 60 else if d = 47 then 60 else if d = 46 then 30 else if d = 45 then 6 else if d = 44 then 300 else if d = 43 then 10 else if d = 42 then 6 else if d = 60 then 10 else if d = 41 then 10 else if d = 40 then 6 else gN (gA6 I) (d, 0) := by
  rw [b16_e, arr_N, b15_e, arr_N, b14_e, arr_N, b13_e, arr_N, b12_e, arr_N, b11_e, arr_N, b10_e, arr_N, b9_e, arr_N, b8_e, arr_N, b7_e, arr_N, b6_e, arr_N, b5_e, arr_N, b4_e, arr_N, b3_e, arr_N, b2_e, arr_N, b1_e, arr_N, b0_N h]
theorem bN_I {I : Nm → Nat → Int32} {d j : Nat} : gI (gB16 I) (d, 0) j = if d = 55 then 0 else if d = 54 then 0 else if d = 53 then 0 else if d = 52 then 0 else if d = 51 then 0 else if d = 50 then 0 else if d = 49 then 0 else if d = 48 then 0 else if d = 47 then 0 else if d = 46 then 0 else if d = 45 then 0 else if d = 44 then 0 else if d = 43 then 0 else if d = 42 then 0 else if d = 60 then 0 else if d = 41 then 0 else gI (gB0 I) (d, 0) j := by
  rw [b16_e, arr_I, b15_e, arr_I, b14_e, arr_I, b13_e, arr_I, b12_e, arr_I, b11_e, arr_I, b10_e, arr_I, b9_e, arr_I, b8_e, arr_I, b7_e, arr_I, b6_e, arr_I, b5_e, arr_I, b4_e, arr_I, b3_e, arr_I, b2_e, arr_I, b1_e, arr_I]
theorem bN_F {I : Nm → Nat → Int32} : Fr (fun m => m.2 = 0 ∧ (m.1 = 10 ∨ 40 ≤ m.1)) (gA6 I) (gB16 I) := ((((((((((((((((b0_F.t (arr_F (Or.inr (by decide)))).t (arr_F (Or.inr (by decide)))).t (arr_F (Or.inr (by decide)))).t (arr_F (Or.inr (by decide)))).t (arr_F (Or.inr (by decide)))).t (arr_F (Or.inr (by decide)))).t (arr_F (Or.inr (by decide)))).t (arr_F (Or.inr (by decide)))).t (arr_F (Or.inr (by decide)))).t (arr_F (Or.inr (by decide)))).t (arr_F (Or.inr (by decide)))).t (arr_F (Or.inr (by decide)))).t (arr_F (Or.inr (by decide)))).t (arr_F (Or.inr (by decide)))).t (arr_F (Or.inr (by decide)))).t (arr_F (Or.inr (by decide))))
theorem ini157 : ∀ (m v : Nat) (g : Hp), gR g (10, 0) 11 = some (43, 0) → gN g (43, 0) = 10 → v ≤ 10 → 10 - v < m → (∀ k, k < v → gI g (43, 0) k = -9) → ∃ g2, f_X9_init_157_L z (some (10, 0)) m (nI v) g = some (10, g2) ∧ g2.1 = g.1 ∧ g2.2.2 = g.2.2 ∧ (∀ nm, nm ≠ (43, 0) → gI g2 nm = gI g nm) ∧ ∀ k, k < 10 → gI g2 (43, 0) k = -9
  | 0, v, _, _, _, _, h, _ => absurd h (Nat.not_lt_zero _)
  | m + 1, v, g, h1, h2, h3, h4, h5 => by
    show ∃ g2, f_X9_init_157_b z (some (10, 0)) (f_X9_init_157_L z (some (10, 0)) m) (nI v) g = some (10, g2) ∧ _
    unfold f_X9_init_157_b
    rw [show (10 : Int32) = nI 10 from rfl]
    by_cases he : v = 10
    · subst he
      rw [if_pos ((nI_leI (by omega) (by omega)).mpr (Nat.le_refl _))]
      exact ⟨g, rfl, rfl, rfl, fun _ _ => rfl, h5⟩
    · rw [if_neg (fun w => by have := (nI_leI (by omega) (by omega)).mp w; omega)]
      simp only [gR_X, h1, ob, ast_X h2 (by decide) (by decide) (show v < 10 by omega) (by decide), nI_1]
      obtain ⟨g2, a1, a2, a3, a4, a5⟩ := ini157 m (v + 1) (setI g (43, 0) v (-9)) h1 h2 (by omega) (by omega) (fun k hk => by
        by_cases e : k = v
        · rw [gI_set, if_pos ⟨rfl, e⟩]
        · rw [gI_set, if_neg (fun w => e w.2)]; exact h5 k (by omega))
      refine ⟨g2, a1, a2, a3, fun nm hnm => ?_, a5⟩
      rw [a4 nm hnm]
      funext j
      rw [gI_set, if_neg (fun w => hnm w.1)]
theorem ini179 : ∀ (m v : Nat) (g : Hp), gR g (10, 0) 13 = some (45, 0) → gN g (45, 0) = 6 → 1 ≤ v → v ≤ 5 → 5 - v < m → gI g (45, 0) 0 = 0 → (∀ k, 1 ≤ k → k < v → gI g (45, 0) k = nI (4 * k)) → ∃ g2, f_X9_init_179_L z (some (10, 0)) m (nI v) g = some (5, g2) ∧ g2.1 = g.1 ∧ g2.2.2 = g.2.2 ∧ (∀ nm, nm ≠ (45, 0) → gI g2 nm = gI g nm) ∧ gI g2 (45, 0) 0 = 0 ∧ ∀ k, 1 ≤ k → k < 5 → gI g2 (45, 0) k = nI (4 * k)
  | 0, v, _, _, _, _, _, h, _, _ => absurd h (Nat.not_lt_zero _)
  | m + 1, v, g, h1, h2, h0, h3, h4, h6, h5 => by
    show ∃ g2, f_X9_init_179_b z (some (10, 0)) (f_X9_init_179_L z (some (10, 0)) m) (nI v) g = some (5, g2) ∧ _
    unfold f_X9_init_179_b
    rw [show (5 : Int32) = nI 5 from rfl, show (4 : Int32) = nI 4 from rfl, pk_mul]
    by_cases he : v = 5
    · subst he
      rw [if_pos ((nI_leI (by omega) (by omega)).mpr (Nat.le_refl _))]
      exact ⟨g, rfl, rfl, rfl, fun _ _ => rfl, h6, h5⟩
    · rw [if_neg (fun w => by have := (nI_leI (by omega) (by omega)).mp w; omega)]
      simp only [gR_X, h1, ob, ast_X h2 (by decide) (by decide) (show v < 6 by omega) (by decide), nI_1]
      obtain ⟨g2, a1, a2, a3, a4, a6, a5⟩ := ini179 m (v + 1) (setI g (45, 0) v (nI (4 * v))) h1 h2 (by omega) (by omega) (by omega) (by rw [gI_set, if_neg (fun w => by have := w.2; omega)]; exact h6) (fun k hk1 hk => by
        by_cases e : k = v
        · rw [gI_set, if_pos ⟨rfl, e⟩, e]
        · rw [gI_set, if_neg (fun w => e w.2)]; exact h5 k hk1 (by omega))
      refine ⟨g2, a1, a2, a3, fun nm hnm => ?_, a6, a5⟩
      rw [a4 nm hnm]
      funext j
      rw [gI_set, if_neg (fun w => hnm w.1)]
theorem modE (hz : 2000 ≤ z) {gB : Hp} (h11 : gR gB (10, 0) 11 = some (43, 0)) (h13 : gR gB (10, 0) 13 = some (45, 0)) (h43 : gN gB (43, 0) = 10) (h45 : gN gB (45, 0) = 6) (h0 : gI gB (45, 0) 0 = 0) : ∃ gM, ((f_X9_init_157_L z (some (10, 0)) z 0 gB).bind fun q39 => (f_X9_init_179_L z (some (10, 0)) z 1 q39.2).bind fun q42 => (getR (some (10, 0)) 10 13 q42.2).bind fun x43 => (astI x43 5 61 q42.2).bind fun g44 => some ((), g44)) = some ((), gM) ∧ gM.1 = gB.1 ∧ gM.2.2 = gB.2.2 ∧ (∀ nm, nm ≠ (43, 0) → nm ≠ (45, 0) → gI gM nm = gI gB nm) ∧ (∀ k, k < 10 → gI gM (43, 0) k = -9) ∧ gI gM (45, 0) 0 = 0 ∧ (∀ k, 1 ≤ k → k < 5 → gI gM (45, 0) k = nI (4 * k)) ∧ gI gM (45, 0) 5 = 61 := by
  obtain ⟨g1, a1, a2, a3, a4, a5⟩ := ini157 (z := z) z 0 gB h11 h43 (by omega) (by omega) (fun k hk => absurd hk (Nat.not_lt_zero _))
  have r1 : gR g1 = gR gB := congrArg (fun w : HR => w.2.1) a2
  have n1 : gN g1 = gN gB := congrArg (fun w : HR => w.2.2) a2
  obtain ⟨g2, b1, b2, b3, b4, b6, b5⟩ := ini179 (z := z) z 1 g1 (by rw [r1]; exact h13) (by rw [n1]; exact h45) (by omega) (by omega) (by omega) (by rw [a4 (45, 0) (by decide)]; exact h0) (fun k h1 h2 => by omega)
  have r2 : gR g2 = gR gB := (congrArg (fun w : HR => w.2.1) b2).trans r1
  have n2 : gN g2 (45, 0) = 6 := (congrFun ((congrArg (fun w : HR => w.2.2) b2).trans n1) (45, 0)).trans h45
  have e13 : gR g2 (10, 0) 13 = some (45, 0) := by rw [r2]; exact h13
  refine ⟨setI g2 (45, 0) 5 61, ?_, (b2.trans a2), (b3.trans a3), fun nm h1 h2 => ?_, fun k hk => ?_, ?_, fun k h1 h2 => ?_, ?_⟩
  · rw [show (0 : Int32) = nI 0 from rfl, a1]
    simp only [ob]
    rw [show (1 : Int32) = nI 1 from rfl, b1]
    simp only [ob, gR_X, e13]
    rw [show (5 : Int32) = nI 5 from rfl, ast_X n2 (by decide) (by decide) (by decide) (by decide)]
    rfl
  · have e : gI (setI g2 (45, 0) 5 61) nm = gI g2 nm := by
      funext j
      rw [gI_set, if_neg (fun w => h2 w.1)]
    rw [e, b4 nm h2, a4 nm h1]
  · rw [gI_set, if_neg (by simp), b4 (43, 0) (by decide)]; exact a5 k hk
  · rw [gI_set, if_neg (by simp)]; exact b6
  · rw [gI_set, if_neg (fun w => by have := w.2; omega)]; exact b5 k h1 h2
  · rw [gI_set, if_pos ⟨rfl, rfl⟩]
theorem modB (I : Nm → Nat → Int32) : f_X9_init z (some (10, 0)) (newN (gA6 I) (10, 0) 0 27) = ((f_X9_init_157_L z (some (10, 0)) z 0 (gB16 I)).bind fun q39 => (f_X9_init_179_L z (some (10, 0)) z 1 q39.2).bind fun q42 => (getR (some (10, 0)) 10 13 q42.2).bind fun x43 => (astI x43 5 61 q42.2).bind fun g44 => some ((), g44)) := by
  unfold f_X9_init
  simp only [nnu, ob, pI_X]
  rw [mkA (c := 40) (l := 6) (k := 1) (x := 6) rfl (by decide) (by decide) (by decide)]
  rw [show setI (setI (arr (newN (gA6 I) (10, 0) 0 27) 40 6 1) (10, 0) 3 100) (10, 0) 4 2 = gB0 I from rfl]
  rw [mkA (c := 41) (l := 10) (k := 7) (x := 10) rfl (by decide) (by decide) (by decide), ← b1_e]
  rw [mkAZ (c := 60) (l := 10) (k := 8) (x := 10) rfl (by decide) (by decide), ← b2_e]
  rw [mkA (c := 42) (l := 6) (k := 10) (x := 6) rfl (by decide) (by decide) (by decide), ← b3_e]
  rw [mkA (c := 43) (l := 10) (k := 11) (x := 10) rfl (by decide) (by decide) (by decide), ← b4_e]
  rw [mkA (c := 44) (l := 300) (k := 12) (x := 300) rfl (by decide) (by decide) (by decide), ← b5_e]
  rw [mkA (c := 45) (l := 6) (k := 13) (x := 6) rfl (by decide) (by decide) (by decide), ← b6_e]
  rw [mkA (c := 46) (l := 30) (k := 14) (x := 30) rfl (by decide) (by decide) (by decide), ← b7_e]
  rw [mkA (c := 47) (l := 60) (k := 16) (x := 60) rfl (by decide) (by decide) (by decide), ← b8_e]
  rw [mkA (c := 48) (l := 60) (k := 17) (x := 60) rfl (by decide) (by decide) (by decide), ← b9_e]
  rw [mkA (c := 49) (l := 60) (k := 18) (x := 60) rfl (by decide) (by decide) (by decide), ← b10_e]
  rw [mkA (c := 50) (l := 60) (k := 19) (x := 60) rfl (by decide) (by decide) (by decide), ← b11_e]
  rw [mkA (c := 51) (l := 5) (k := 21) (x := 5) rfl (by decide) (by decide) (by decide), ← b12_e]
  rw [mkA (c := 52) (l := 144) (k := 22) (x := 144) rfl (by decide) (by decide) (by decide), ← b13_e]
  rw [mkA (c := 53) (l := 144) (k := 23) (x := 144) rfl (by decide) (by decide) (by decide), ← b14_e]
  rw [mkA (c := 54) (l := 1600) (k := 25) (x := 1600) rfl (by decide) (by decide) (by decide), ← b15_e]
  rw [mkA (c := 55) (l := 150) (k := 26) (x := 150) rfl (by decide) (by decide) (by decide), ← b16_e]
  · rw [gL_B15]; decide
  · rw [gL_B14]; decide
  · rw [gL_B13]; decide
  · rw [gL_B12]; decide
  · rw [gL_B11]; decide
  · rw [gL_B10]; decide
  · rw [gL_B9]; decide
  · rw [gL_B8]; decide
  · rw [gL_B7]; decide
  · rw [gL_B6]; decide
  · rw [gL_B5]; decide
  · rw [gL_B4]; decide
  · rw [gL_B3]; decide
  · rw [gL_B2]; decide
  · rw [gL_B1]; decide
  · rw [gL_B0]; decide
  · show (40, 0) ∉ gL (gA6 I) ++ [(10, 0)]
    rw [gL_A6]; decide
end MDI
