/-! the class's start -/
def gZ : Hp := (([], fun _ _ => none, fun _ => 0), (fun _ _ => 0), 0, 0)
section CLI
variable {z : Nat}
theorem mkL {α : Type} {g : Hp} {j : Nat} {F : Option Nm × Hp → Unit × Hp → Option α} (hn : (0, j) ∉ gL g) : ((mkO (0, j) 0 g).bind fun q4 => (nnl q4.1 (f_Jx4a65c_init_da8c8 z q4.1 q4.2)).bind (F q4)) = F (some (0, j), newN g (0, j) 0 3) ((), setR (setI (newN g (0, j) 0 3) (0, j) 0 0) (0, j) 1 (some (17, 0))) := by
  rw [mkO_X hn]
  simp only [ob, nnl_X, f_Jx4a65c_init_da8c8, f_Jxc12de_init_da8c8, f_Jxa1e45_init_da8c8, nnu, pI_X, pR_X]
  rfl
/-- before the table of travels -/
def gA1 : Hp := setR (newN (newN (newN gZ (9, 0) 0 14) (8, 0) 0 1) (20, 0) 144 144) (8, 0) 0 (some (20, 0))
/-- after it -/
def gA2 (I : Nm → Nat → Int32) : Hp := (gA1.1, I, gA1.2.2)
def lst (g : Hp) (j k : Nat) : Hp := setR (setR (setI (newN g (0, j) 0 3) (0, j) 0 0) (0, j) 1 (some (17, 0))) (9, 0) k (some (0, j))
def gA3 (I : Nm → Nat → Int32) : Hp := lst (lst (lst (lst (lst (setR (gA2 I) (9, 0) 0 (some (8, 0))) 0 1) 1 2) 2 3) 3 4) 4 5
def gA4 (I : Nm → Nat → Int32) : Hp := setR (setI (setR (newN (setR (newN (newN (gA3 I) (1, 0) 0 6) (21, 0) 144 144) (1, 0) 0 (some (21, 0))) (22, 0) 144 144) (1, 0) 1 (some (22, 0))) (1, 0) 5 (-9)) (9, 0) 6 (some (1, 0))
def gA5 (I : Nm → Nat → Int32) : Hp := setR (setI (setI (setI (setI (setI (setI (newN (gA4 I) (23, 0) 6 6) (23, 0) 0 0) (23, 0) 1 4) (23, 0) 2 8) (23, 0) 3 12) (23, 0) 4 16) (23, 0) 5 61) (9, 0) 7 (some (23, 0))
def gA6 (I : Nm → Nat → Int32) : Hp := setI (setR (newN (gA5 I) (24, 0) 6 6) (9, 0) 8 (some (24, 0))) (9, 0) 11 2
def l3 : List Nm := [(9, 0), (8, 0), (20, 0), (0, 0), (0, 1), (0, 2), (0, 3), (0, 4)]
theorem gL_A3 (I : Nm → Nat → Int32) : gL (gA3 I) = l3 := rfl
theorem gL_A4 (I : Nm → Nat → Int32) : gL (gA4 I) = l3 ++ [(1, 0), (21, 0), (22, 0)] := rfl
theorem gL_A5 (I : Nm → Nat → Int32) : gL (gA5 I) = l3 ++ [(1, 0), (21, 0), (22, 0), (23, 0)] := rfl
theorem gL_A6 (I : Nm → Nat → Int32) : gL (gA6 I) = l3 ++ [(1, 0), (21, 0), (22, 0), (23, 0), (24, 0)] := rfl
theorem cls0 (hz : 2000 ≤ z) : ∃ I : Nm → Nat → Int32, f_X8_init z (some (9, 0)) (newN gZ (9, 0) 0 14) = some ((), gA6 I) ∧ (∀ n k, n.1 ≠ 20 → I n k = 0) ∧ ∀ k, k < 144 → I (20, 0) k = nI (isq (100 * ((k / 12) * (k / 12) + (k % 12) * (k % 12)))) := by
  obtain ⟨g2, k1, k2, k3⟩ := reckon_L (z := z) hz (q := 100) (by decide) z 0 gA1 rfl rfl (by decide) (by omega) (fun k hk => absurd hk (Nat.not_lt_zero _))
  obtain ⟨a, I, c⟩ := g2
  obtain ⟨h1, h2, h3⟩ := k2
  have e1 : a = gA1.1 := h1
  have e2 : c = gA1.2.2 := h2
  subst e1
  subst e2
  refine ⟨I, ?_, fun n k hn => ?_, fun k hk => k3 k hk⟩
  · have m8 : (8, 0) ∉ gL (newN gZ (9, 0) 0 14) := by
      show (8, 0) ∉ ([(9, 0)] : List Nm)
      decide
    have m20 : (20, 0) ∉ gL (newN (newN gZ (9, 0) 0 14) (8, 0) 0 1) := by
      show (20, 0) ∉ ([(9, 0), (8, 0)] : List Nm)
      decide
    have i20 := mkI_X (n := (20, 0)) (l := 144) (show 20 ≤ 20 by decide) (show 20 < 60 by decide) m20 (by decide)
    have hx7 : f_X7_init z (some (8, 0)) 100 (newN (newN gZ (9, 0) 0 14) (8, 0) 0 1) = some ((), gA2 I) := by
      unfold f_X7_init f_X7_reckon
      rw [show (144 : Int32) = nI 144 from rfl]
      simp only [nnu, ob, nix]
      rw [i20]
      simp only [ob, pR_X, ick_X]
      rw [show (100 : Int32) = nI 100 from rfl, show (0 : Int32) = nI 0 from rfl]
      rw [show setR (newN (newN (newN gZ (9, 0) 0 14) (8, 0) 0 1) (20, 0) 144 144) (8, 0) 0 (some (20, 0)) = gA1 from rfl, k1]
      simp only [ob]
      rfl
    have m0 : ∀ G, gL G = [(9, 0), (8, 0), (20, 0)] → (0, 0) ∉ gL G := fun G h => by rw [h]; decide
    have m1 : ∀ G, gL G = [(9, 0), (8, 0), (20, 0), (0, 0)] → (0, 1) ∉ gL G := fun G h => by rw [h]; decide
    have m2 : ∀ G, gL G = [(9, 0), (8, 0), (20, 0), (0, 0), (0, 1)] → (0, 2) ∉ gL G := fun G h => by rw [h]; decide
    have m3 : ∀ G, gL G = [(9, 0), (8, 0), (20, 0), (0, 0), (0, 1), (0, 2)] → (0, 3) ∉ gL G := fun G h => by rw [h]; decide
    have m4 : ∀ G, gL G = [(9, 0), (8, 0), (20, 0), (0, 0), (0, 1), (0, 2), (0, 3)] → (0, 4) ∉ gL G := fun G h => by rw [h]; decide
    have n1 : (1, 0) ∉ gL (gA3 I) := by rw [gL_A3]; decide
    have n21 : (21, 0) ∉ gL (newN (gA3 I) (1, 0) 0 6) := by
      show (21, 0) ∉ l3 ++ [(1, 0)]
      decide
    have n22 : (22, 0) ∉ gL (setR (newN (newN (gA3 I) (1, 0) 0 6) (21, 0) 144 144) (1, 0) 0 (some (21, 0))) := by
      show (22, 0) ∉ (l3 ++ [(1, 0)]) ++ [(21, 0)]
      decide
    have i21 := mkI_X (n := (21, 0)) (l := 144) (show 20 ≤ 21 by decide) (show 21 < 60 by decide) n21 (by decide)
    have i22 := mkI_X (n := (22, 0)) (l := 144) (show 20 ≤ 22 by decide) (show 22 < 60 by decide) n22 (by decide)
    have hx0 : f_X0_init z (some (1, 0)) (newN (gA3 I) (1, 0) 0 6) = some ((), setI (setR (newN (setR (newN (newN (gA3 I) (1, 0) 0 6) (21, 0) 144 144) (1, 0) 0 (some (21, 0))) (22, 0) 144 144) (1, 0) 1 (some (22, 0))) (1, 0) 5 (-9)) := by
      unfold f_X0_init
      rw [show (144 : Int32) = nI 144 from rfl]
      simp only [nnu, ob, nix]
      rw [i21]
      simp only [ob, pR_X]
      rw [i22]
      simp only [ob, pR_X, pI_X]
    have n23 : (23, 0) ∉ gL (gA4 I) := by rw [gL_A4]; decide
    have n24 : (24, 0) ∉ gL (gA5 I) := by rw [gL_A5]; decide
    have i23 := mkI_X (n := (23, 0)) (l := 6) (show 20 ≤ 23 by decide) (show 23 < 60 by decide) n23 (by decide)
    have i24 := mkI_X (n := (24, 0)) (l := 6) (show 20 ≤ 24 by decide) (show 24 < 60 by decide) n24 (by decide)
    have as23 : ∀ (G : Hp) (k : Nat) (v : Int32), gN G (23, 0) = 6 → k < 6 → astI (some (23, 0)) (nI k) v G = some (setI G (23, 0) k v) := fun G k v h hk => ast_X h (by decide) (by decide) hk (by decide)
    unfold f_X8_init
    rw [mkO_X m8]
    simp only [nnu, ob, nnl_X, flds, List.length]
    rw [show (0 + 1 : Nat) = 1 from rfl, hx7]
    simp only [ob, pR_X]
    rw [mkL, mkL, mkL, mkL, mkL]
    · rw [show setR (setR (setI (newN (setR (setR (setI (newN (setR (setR (setI (newN (setR (setR (setI (newN (setR (setR (setI (newN (setR (gA2 I) (9, 0) 0 (some (8, 0))) (0, 0) 0 3) (0, 0) 0 0) (0, 0) 1 (some (17, 0))) (9, 0) 1 (some (0, 0))) (0, 1) 0 3) (0, 1) 0 0) (0, 1) 1 (some (17, 0))) (9, 0) 2 (some (0, 1))) (0, 2) 0 3) (0, 2) 0 0) (0, 2) 1 (some (17, 0))) (9, 0) 3 (some (0, 2))) (0, 3) 0 3) (0, 3) 0 0) (0, 3) 1 (some (17, 0))) (9, 0) 4 (some (0, 3))) (0, 4) 0 3) (0, 4) 0 0) (0, 4) 1 (some (17, 0))) (9, 0) 5 (some (0, 4)) = gA3 I from rfl]
      rw [mkO_X n1]
      simp only [ob, nnl_X, flds, List.length]
      rw [show (0 + 1 + 1 + 1 + 1 + 1 + 1 : Nat) = 6 from rfl, hx0]
      simp only [ob, pR_X]
      rw [show setR (setI (setR (newN (setR (newN (newN (gA3 I) (1, 0) 0 6) (21, 0) 144 144) (1, 0) 0 (some (21, 0))) (22, 0) 144 144) (1, 0) 1 (some (22, 0))) (1, 0) 5 (-9)) (9, 0) 6 (some (1, 0)) = gA4 I from rfl, show (6 : Int32) = nI 6 from rfl, i23]
      simp only [ob]
      rw [show (0 : Int32) = nI 0 from rfl, as23 _ 0 _ rfl (by decide)]
      simp only [ob]
      rw [show (1 : Int32) = nI 1 from rfl, as23 _ 1 _ rfl (by decide)]
      simp only [ob]
      rw [show (2 : Int32) = nI 2 from rfl, as23 _ 2 _ rfl (by decide)]
      simp only [ob]
      rw [show (3 : Int32) = nI 3 from rfl, as23 _ 3 _ rfl (by decide)]
      simp only [ob]
      rw [show (4 : Int32) = nI 4 from rfl, as23 _ 4 _ rfl (by decide)]
      simp only [ob]
      rw [show (5 : Int32) = nI 5 from rfl, as23 _ 5 _ rfl (by decide)]
      simp only [ob, pR_X]
      rw [show setR (setI (setI (setI (setI (setI (setI (newN (gA4 I) (23, 0) 6 6) (23, 0) 0 (nI 0)) (23, 0) 1 (nI 4)) (23, 0) 2 8) (23, 0) 3 12) (23, 0) 4 16) (23, 0) 5 61) (9, 0) 7 (some (23, 0)) = gA5 I from rfl, i24]
      simp only [ob, pR_X, pI_X]
      rfl
    · exact m4 _ rfl
    · exact m3 _ rfl
    · exact m2 _ rfl
    · exact m1 _ rfl
    · exact m0 _ rfl
  · have := h3 n k (by simp [hn])
    have z0 : gI gA1 n k = 0 := by simp [gA1, gI, setR, newN, gZ]
    exact this.trans z0
end CLI
