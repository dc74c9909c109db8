section STA
variable {z : Nat}
theorem op_station (a : Int32) : OP (fun g => f_X8_station z (some (9, 0)) a g) (fun g => f_X9_station z (some (10, 0)) a g) := by
  intro g V h hms
  have hns := h.v.hv.ns
  have hnp := h.v.hv.np
  by_cases h1 : inB a 0 143 = 0
  · refine op_same h (r := -1) ?_ ?_
    · simp only [f_X8_station, cell8, Option.bind_some, h1, if_true]
    · simp only [f_X9_station, cell9, Option.bind_some, h1, if_true]
  by_cases h2 : nst V < 10
  · have hlt : nI (nst V) < 10 := by rw [show (10 : Int32) = nI 10 from rfl]; exact (nI_ltI (by omega) (by omega)).mpr h2
    have hne : ¬ nI (nst V) = 10 := fun w => by have := nI_inj2 (b := 10) w (by omega) (by omega); omega
    by_cases h3 : npk V = 0
    · obtain ⟨d, hd, rfl⟩ := clOf h1
      obtain ⟨hf6, hf5, hf25⟩ := h.r.2.1.2.2 (nst V) (Nat.le_refl _)
      have hq0 : nqk V = 0 := by
        rcases Nat.eq_zero_or_pos (nqk V) with w | w
        · exact w
        · have := (h.v.fp w).1; omega
      generalize hn : nst V = n at *
      have ga : ∃ ga, f_X5_init z (some (6, n)) (nI d) (newN g (6, n) 0 3) = some ((), ga) ∧ Fr (fun m => m = (6, n) ∨ m = (5, n) ∨ m = (25, n)) g ga ∧ gI ga (6, n) 0 = nI d ∧ gI ga (6, n) 2 = 0 ∧ gR ga (6, n) 1 = some (5, n) ∧ gR ga (5, n) 0 = some (25, n) ∧ gI ga (5, n) 1 = -1 ∧ gN ga (25, n) = 30 ∧ (∀ k, gI ga (25, n) k = 0) ∧ gc ga = gc g + 3 ∧ gs ga = gs g + 35 := by
        have m5 : (5, n) ∉ gL (newN g (6, n) 0 3) := by
          show (5, n) ∉ gL g ++ [(6, n)]
          simp [hf5]
        have m25 : ¬ (25, n) ∈ gL (newN (newN g (6, n) 0 3) (5, n) 0 2) := by
          show (25, n) ∉ (gL g ++ [(6, n)]) ++ [(5, n)]
          simp [hf25]
        have mi : mkI (25, n) 30 (newN (newN g (6, n) 0 3) (5, n) 0 2) = some (some (25, n), newN (newN (newN g (6, n) 0 3) (5, n) 0 2) (25, n) 30 30) := by
          unfold mkI
          exact if_pos ⟨⟨by decide, by decide⟩, m25, by decide, by decide⟩
        refine ⟨_, ?_, ?_, ?_⟩
        · simp only [f_X5_init, nnu, Option.bind_some, nix, mkO_X m5, nnl_X, f_X4_init, flds, List.length]
          rw [show (0 + 1 + 1 : Nat) = 2 from rfl, mi]
          simp only [Option.bind_some, pR_X, pI_X]
        · refine ((((((Fr.nN (g := g) (n := (6, n)) (l := 0) (s := 3)).tr (Fr.nN (n := (5, n)) (l := 0) (s := 2))).tr (Fr.nN (n := (25, n)) (l := 30) (s := 30))).tr Fr.sR).tr Fr.sI).tr Fr.sR).tr Fr.sI |>.mono (fun m hm => ?_)
          rcases hm with (((((hm | hm) | hm) | hm) | hm) | hm) | hm
          · exact Or.inl hm
          · exact Or.inr (Or.inl hm)
          · exact Or.inr (Or.inr hm)
          · exact Or.inr (Or.inl hm)
          · exact Or.inr (Or.inl hm)
          · exact Or.inl hm
          · exact Or.inl hm
        · simp [gI, gR, gN, gc, gs, setI, setR, newN]
      obtain ⟨ga, a1, a2, a3, a4, a5, a6, a7, a8, a9, a10, a11⟩ := ga
      have A2 : Fr (PC 5 [6, 5, 25]) g ga := a2.mono (fun m hm => Or.inr (by rcases hm with e | e | e <;> (rw [e]; simp)))
      have hL : LR ga.1 0 6 n := LR.fr A2 (by decide) (by decide) (by decide) (by have := h.r.2.1.1; rwa [hn] at this)
      have s1 : gI ga (0, 0) 2 = nI n := (congrFun (A2 (0, 0) (PC.n0 (by decide) (by decide))).1 2).trans (by have := h.c0; rwa [hn] at this)
      obtain ⟨g2, b1, b2, b3, b4, b5, b6⟩ := addJ (z := z) s1 hL (by decide) (by omega) (by decide)
      have F : Fr (PC 0 [6, 5, 25, 12]) g g2 := (a2.tr b4).mono (fun m hm => by
        rcases hm with (e | e | e) | e | e
        · exact Or.inr (by rw [e]; simp)
        · exact Or.inr (by rw [e]; simp)
        · exact Or.inr (by rw [e]; simp)
        · exact Or.inl e
        · exact Or.inr (by rw [e]; simp))
      have hev : Ev [41] [6] V (vs (vs V 41 n (nI d)) 10 6 (nI (n + 1))) := ((Ev.rf _ _ V).s (by decide) (by decide)).t (by decide)
      sorry
    · refine op_same h (r := -4) ?_ ?_
      · simp only [f_X8_station, cell8, Option.bind_some, if_neg h1, gr_C h.b1, cRef, ick_X, sizeJ h.c0, if_pos hlt, emptyJ h.c2 (show npk V < 2147483648 by omega), if_neg h3]
        rw [if_pos trivial]
      · simp only [f_X9_station, cell9, Option.bind_some, if_neg h1, gi_M, hns.1, hnp.1, if_neg hne]
        rw [if_neg (fun w => by have := (nI_leI (by omega) (by omega)).mp (show nI (npk V) ≤ nI 0 from w); omega)]
  · have e6 : nst V = 10 := by omega
    refine op_same h (r := -2) ?_ ?_
    · simp only [f_X8_station, cell8, Option.bind_some, if_neg h1, gr_C h.b1, cRef, ick_X, sizeJ h.c0, e6]
      rw [if_neg (by decide)]
    · simp only [f_X9_station, cell9, Option.bind_some, if_neg h1, gi_M, hns.1, e6]
      rw [if_pos (by decide)]
end STA
