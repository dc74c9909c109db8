/-! pick: a quake is opened -/
section QOB
variable {z : Nat}
theorem mkI_X {g : Hp} {n : Nm} {l : Nat} (h1 : 20 ≤ n.1) (h2 : n.1 < 60) (hn : n ∉ gL g) (hl : l ≤ 100000) : mkI n (nI l) g = some (some n, newN g n l l) := by
  have e : (nI l).toNatClampNeg = l := nI_cl (by omega)
  have : (20 ≤ n.1 ∧ n.1 < 60) ∧ n ∉ gL g ∧ ¬ nI l < 0 ∧ (nI l).toNatClampNeg ≤ 100000 := ⟨⟨h1, h2⟩, hn, by rw [show (0 : Int32) = nI 0 from rfl, nI_ltI (by omega) (by omega)]; omega, by omega⟩
  unfold mkI
  refine (if_pos this).trans ?_
  rw [e]
theorem ini_L {n : Nat} (p1 p2 p3 : Int32) : ∀ (m v : Nat) (g : Hp), gR g (4, n) 2 = some (26, n) → gN g (26, n) = 10 → v ≤ 10 → 10 - v < m → (∀ k, k < v → gI g (26, n) k = -1) → ∃ g2, f_X3_init_41_L z (some (4, n)) p1 p2 p3 m (nI v) g = some (10, g2) ∧ g2.1 = g.1 ∧ g2.2.2 = g.2.2 ∧ (∀ nm, nm ≠ (26, n) → gI g2 nm = gI g nm) ∧ ∀ k, k < 10 → gI g2 (26, n) k = -1
  | 0, v, _, _, _, _, h, _ => absurd h (Nat.not_lt_zero _)
  | m + 1, v, g, h1, h2, h3, h4, h5 => by
    show ∃ g2, f_X3_init_41_b z (some (4, n)) p1 p2 p3 (f_X3_init_41_L z (some (4, n)) p1 p2 p3 m) (nI v) g = some (10, g2) ∧ _
    unfold f_X3_init_41_b
    have ea : alen (some (26, n)) g = some (nI 10) := by
      have n17 : ¬ (26, n) = (17, 0) := fun w => by have := congrArg Prod.fst w; simp at this
      have h20 : (12 ≤ 26 ∧ 26 < 17) ∨ 20 ≤ 26 := Or.inr (by decide)
      simp only [alen, if_neg n17, if_pos h20, h2]; rfl
    simp only [gR_X, h1, Option.bind_some, ea]
    by_cases he : v = 10
    · subst he
      rw [if_pos ((nI_leI (by omega) (by omega)).mpr (Nat.le_refl _))]
      exact ⟨g, rfl, rfl, rfl, fun _ _ => rfl, h5⟩
    · rw [if_neg (fun w => by have := (nI_leI (by omega) (by omega)).mp w; omega)]
      simp only [ast_X h2 (by decide) (by decide) (show v < 10 by omega) (by decide), Option.bind_some, nI_1]
      obtain ⟨g2, a1, a2, a3, a4, a5⟩ := ini_L p1 p2 p3 m (v + 1) (setI g (26, n) v (-1)) h1 h2 (by omega) (by omega) (fun k hk => by
        by_cases e : k = v
        · rw [gI_set, if_pos ⟨rfl, e⟩]
        · rw [gI_set, if_neg (fun w => e w.2)]; exact h5 k (by omega))
      refine ⟨g2, a1, a2, a3, fun nm hnm => ?_, a5⟩
      rw [a4 nm hnm]
      funext j
      rw [gI_set, if_neg (fun w => hnm w.1)]
theorem quakeIni (hz : 2000 ≤ z) {g : Hp} {n : Nat} (h26 : (26, n) ∉ gL g) (h27 : (27, n) ∉ gL g) (h28 : (28, n) ∉ gL g) {s t x : Nat} (hs : s < 10) : ∃ ga, f_X3_init z (some (4, n)) (nI s) (nI t) (nI x) (newN g (4, n) 0 6) = some ((), ga) ∧ Fr (fun m => m = (4, n) ∨ m = (26, n) ∨ m = (27, n) ∨ m = (28, n)) g ga ∧ (gI ga (4, n) 0 = nI s ∧ gI ga (4, n) 1 = nI x ∧ gI ga (4, n) 3 = 1) ∧ (∀ k, k < 10 → gI ga (26, n) k = if k = s then nI t else -1) ∧ (∀ k, gI ga (27, n) k = 0) ∧ (∀ k, gI ga (28, n) k = 0) ∧ (gR ga (4, n) 2 = some (26, n) ∧ gR ga (4, n) 4 = some (27, n) ∧ gR ga (4, n) 5 = some (28, n) ∧ gN ga (26, n) = 10 ∧ gN ga (27, n) = 6 ∧ gN ga (28, n) = 6) ∧ gc ga = gc g + 4 ∧ gs ga = gs g + 28 := by
  have m26 : (26, n) ∉ gL (newN g (4, n) 0 6) := by
    show (26, n) ∉ gL g ++ [(4, n)]
    simp [h26]
  have m27 : (27, n) ∉ gL (setR (newN (newN g (4, n) 0 6) (26, n) 10 10) (4, n) 2 (some (26, n))) := by
    show (27, n) ∉ (gL g ++ [(4, n)]) ++ [(26, n)]
    simp [h27]
  have m28 : (28, n) ∉ gL (setR (newN (setR (newN (newN g (4, n) 0 6) (26, n) 10 10) (4, n) 2 (some (26, n))) (27, n) 6 6) (4, n) 4 (some (27, n))) := by
    show (28, n) ∉ ((gL g ++ [(4, n)]) ++ [(26, n)]) ++ [(27, n)]
    simp [h28]
  have i26 := mkI_X (n := (26, n)) (l := 10) (show 20 ≤ 26 by decide) (show 26 < 60 by decide) m26 (by decide)
  have i27 := mkI_X (n := (27, n)) (l := 6) (show 20 ≤ 27 by decide) (show 27 < 60 by decide) m27 (by decide)
  have i28 := mkI_X (n := (28, n)) (l := 6) (show 20 ≤ 28 by decide) (show 28 < 60 by decide) m28 (by decide)
  have F1 : Fr (fun m => m = (4, n) ∨ m = (26, n) ∨ m = (27, n) ∨ m = (28, n)) g (setI (setI (setR (newN (setR (newN (setR (newN (newN g (4, n) 0 6) (26, n) 10 10) (4, n) 2 (some (26, n))) (27, n) 6 6) (4, n) 4 (some (27, n))) (28, n) 6 6) (4, n) 5 (some (28, n))) (4, n) 0 (nI s)) (4, n) 1 (nI x)) := by
    refine (((((((((Fr.nN (g := g) (n := (4, n)) (l := 0) (s := 6)).tr (Fr.nN (n := (26, n)) (l := 10) (s := 10))).tr Fr.sR).tr (Fr.nN (n := (27, n)) (l := 6) (s := 6))).tr Fr.sR).tr (Fr.nN (n := (28, n)) (l := 6) (s := 6))).tr Fr.sR).tr Fr.sI).tr Fr.sI).mono (fun m hm => ?_)
    rcases hm with (((((((hm | hm) | hm) | hm) | hm) | hm) | hm) | hm) | hm
    · exact Or.inl hm
    · exact Or.inr (Or.inl hm)
    · exact Or.inl hm
    · exact Or.inr (Or.inr (Or.inl hm))
    · exact Or.inl hm
    · exact Or.inr (Or.inr (Or.inr hm))
    · exact Or.inl hm
    · exact Or.inl hm
    · exact Or.inl hm
  have hv1 : ∀ gA, gA = (setI (setI (setR (newN (setR (newN (setR (newN (newN g (4, n) 0 6) (26, n) 10 10) (4, n) 2 (some (26, n))) (27, n) 6 6) (4, n) 4 (some (27, n))) (28, n) 6 6) (4, n) 5 (some (28, n))) (4, n) 0 (nI s)) (4, n) 1 (nI x)) → gI gA (4, n) 0 = nI s ∧ gI gA (4, n) 1 = nI x ∧ gI gA (4, n) 3 = 0 ∧ (∀ k, gI gA (27, n) k = 0) ∧ (∀ k, gI gA (28, n) k = 0) ∧ gR gA (4, n) 2 = some (26, n) ∧ gR gA (4, n) 4 = some (27, n) ∧ gR gA (4, n) 5 = some (28, n) ∧ gN gA (26, n) = 10 ∧ gN gA (27, n) = 6 ∧ gN gA (28, n) = 6 ∧ gc gA = gc g + 4 ∧ gs gA = gs g + 28 := fun gA e => by
    subst e
    simp [gI, gR, gN, gc, gs, setI, setR, newN]
  generalize hgA : (setI (setI (setR (newN (setR (newN (setR (newN (newN g (4, n) 0 6) (26, n) 10 10) (4, n) 2 (some (26, n))) (27, n) 6 6) (4, n) 4 (some (27, n))) (28, n) 6 6) (4, n) 5 (some (28, n))) (4, n) 0 (nI s)) (4, n) 1 (nI x)) = gA at F1 hv1
  obtain ⟨w0, w1, w3, w27, w28, r2, r4, r5, n26, n27, n28, wc, ws⟩ := hv1 gA rfl
  obtain ⟨gB, b1, b2, b3, b4, b5⟩ := ini_L (z := z) (n := n) (nI s) (nI t) (nI x) z 0 gA r2 n26 (by omega) (by omega) (fun k hk => absurd hk (Nat.not_lt_zero _))
  have rB : gR gB = gR gA := congrArg (fun w : HR => w.2.1) b2
  have nB : gN gB = gN gA := congrArg (fun w : HR => w.2.2) b2
  have lB : gL gB = gL gA := congrArg (fun w : HR => w.1) b2
  have n26B : gN gB (26, n) = 10 := by rw [nB]; exact n26
  have e3 : gI (setI gB (26, n) s (nI t)) (4, n) 3 = 0 := by rw [gI_set, if_neg (by simp), b4 (4, n) (by simp)]; exact w3
  refine ⟨setI (setI gB (26, n) s (nI t)) (4, n) 3 1, ?_, ?_, ?_, ?_, ?_, ?_, ?_, ?_, ?_⟩
  · simp only [f_X3_init, nnu, Option.bind_some, nix]
    rw [show (10 : Int32) = nI 10 from rfl, show (6 : Int32) = nI 6 from rfl, i26]
    simp only [Option.bind_some, pR_X]
    rw [i27]
    simp only [Option.bind_some, pR_X]
    rw [i28]
    simp only [Option.bind_some, pR_X, pI_X, hgA]
    rw [show (0 : Int32) = nI 0 from rfl, b1]
    simp only [Option.bind_some, ick_X, f_X3_hear, gR_X, rB, r2, ast_X n26B (by decide) (by decide) hs (by decide), gI_X, e3, pI_X]
    rfl
  · intro m hm
    obtain ⟨f1, f2, f3, f4⟩ := F1 m hm
    have hm4 : m ≠ (4, n) := fun w => hm (Or.inl w)
    have hm26 : m ≠ (26, n) := fun w => hm (Or.inr (Or.inl w))
    refine ⟨?_, ?_, ?_, ?_⟩
    · funext j
      rw [gI_set, if_neg (fun w => hm4 w.1), gI_set, if_neg (fun w => hm26 w.1), b4 m hm26, f1]
    · show gR gB m = gR g m
      rw [rB, f2]
    · show gN gB m = gN g m
      rw [nB, f3]
    · show m ∈ gL gB ↔ m ∈ gL g
      rw [lB]; exact f4
  · refine ⟨?_, ?_, ?_⟩
    · rw [gI_set, if_neg (by simp), gI_set, if_neg (by simp), b4 (4, n) (by simp)]; exact w0
    · rw [gI_set, if_neg (by simp), gI_set, if_neg (by simp), b4 (4, n) (by simp)]; exact w1
    · rw [gI_set, if_pos ⟨rfl, rfl⟩]
  · intro k hk
    rw [gI_set, if_neg (by simp)]
    by_cases e : k = s
    · rw [gI_set, if_pos ⟨rfl, e⟩, if_pos e]
    · rw [gI_set, if_neg (fun w => e w.2), if_neg e]; exact b5 k hk
  · intro k
    rw [gI_set, if_neg (by simp), gI_set, if_neg (by simp), b4 (27, n) (by simp)]; exact w27 k
  · intro k
    rw [gI_set, if_neg (by simp), gI_set, if_neg (by simp), b4 (28, n) (by simp)]; exact w28 k
  · refine ⟨?_, ?_, ?_, ?_, ?_, ?_⟩
    · show gR gB (4, n) 2 = _; rw [rB]; exact r2
    · show gR gB (4, n) 4 = _; rw [rB]; exact r4
    · show gR gB (4, n) 5 = _; rw [rB]; exact r5
    · exact n26B
    · show gN gB (27, n) = _; rw [nB]; exact n27
    · show gN gB (28, n) = _; rw [nB]; exact n28
  · show gB.2.2.1 = _
    rw [b3]; exact wc
  · show gB.2.2.2 = _
    rw [b3]; exact ws
end QOB
