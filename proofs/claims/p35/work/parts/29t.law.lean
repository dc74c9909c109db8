/-! the law's first loop, its beginning -/
section LAW
variable {z : Nat} {n e q c0 b0 : Nat}
/-- the cell of station i, and when shaking comes there, out of the script -/
def atS (L : Nat) (xs : Nat → Int32) (i : Nat) : Nat := lw (scv L xs (6 + i)) 144
def cmS (L : Nat) (xs : Nat → Int32) (e q c0 b0 i : Nat) : Nat := b0 + tv q c0 (atS L xs i) + lw (scv L xs (16 + i)) (2 * e + 1) - e
def S1 (L : Nat) (xs : Nat → Int32) (e q c0 b0 k : Nat) (g : Hp) (V : VV) : Prop := IN g V ∧ AL g ∧ nst V = k ∧ npk V = 0 ∧ nqk V = 0 ∧ ntw V = 1 ∧ nw V = 0 ∧ slo V = q ∧ err V = e ∧ (∀ i, i < k → cS V i = atS L xs i) ∧ ∀ i, i < k → gI g (30, 0) i = nI (cmS L xs e q c0 b0 i)
theorem okS {L : Nat} {xs : Nat → Int32} (h1 : n ≤ 8) (h2 : 2 ≤ n) (h3 : e ≤ 7) (h4 : 1 ≤ q) (h5 : q ≤ 300) (h6 : c0 < 144) (h7 : 10 ≤ b0) (h8 : b0 < 60) : OKc n e q c0 b0 (atS L xs) (cmS L xs e q c0 b0) := by
  refine ⟨h1, h2, h3, h4, h5, h6, h7, h8, fun i hi => ?_⟩
  have a1 : atS L xs i < 144 := lw_lt _ (by decide)
  have a2 : lw (scv L xs (16 + i)) (2 * e + 1) < 2 * e + 1 := lw_lt _ (by omega)
  refine ⟨a1, ?_, ?_⟩ <;> (unfold cmS; omega)
theorem loop1 (hz : 2000 ≤ z) {L : Nat} (hL : L ≤ 260) {xs : Nat → Int32} (hk : OKc n e q c0 b0 (atS L xs) (cmS L xs e q c0 b0)) : ∀ (m f k : Nat) (g : Hp) (V : VV), S1 L xs e q c0 b0 k g V → k + m = n → m < f → LQ (f_L_law_117_L z L xs (nI b0) (nI c0) (some (30, 0)) (some (29, 0)) (nI n) (nI e) (some (9, 0)) (some (18, 0)) f (nI k) g)
  | _, 0, _, _, _, _, _, h => absurd h (Nat.not_lt_zero _)
  | 0, f + 1, k, g, V, hS, hm, _ => by
    have hn8 := hk.1
    obtain ⟨h1, h2, h3, h4, h5, h6, h7, h8, h9, h10, h11⟩ := hS
    show LQ (f_L_law_117_b z L xs (nI b0) (nI c0) (some (30, 0)) (some (29, 0)) (nI n) (nI e) (some (9, 0)) (some (18, 0)) (f_L_law_117_L z L xs (nI b0) (nI c0) (some (30, 0)) (some (29, 0)) (nI n) (nI e) (some (9, 0)) (some (18, 0)) f) (nI k) g)
    unfold f_L_law_117_b
    have e0 : k = n := by omega
    subst e0
    rw [if_pos ((nI_leI (by omega) (by omega)).mpr (Nat.le_refl _))]
    have hcp : ∀ m, cP (fun _ => false) m = 0 := fun m => by
      induction m with
      | zero => rfl
      | succ m ih => unfold cP; rw [if_neg (by decide)]; exact ih
    exact loop2 hz hL hk (nI e) z 0 0 145 g V (fun _ => false) ⟨h1, h2, ⟨h3, h8, h9, h10, fun j hj => by omega, fun i _ => by rw [h4]; rfl, fun i _ _ => by omega⟩, fun i hi => by
      show gI g (30, 0) i = if false = true then -1 else nI _
      rw [if_neg (by decide)]; exact h11 i hi, h4, hcp _, by rw [h5, if_pos rfl], h6, by omega, fun _ => rfl, fun w => absurd w (by decide)⟩ (by omega) (by omega)
  | m + 1, f + 1, k, g, V, hS, hm, hf => by
    have hn8 := hk.1
    have he7 := hk.2.2.1
    have hb10 := hk.2.2.2.2.2.2.1
    have hb60 := hk.2.2.2.2.2.2.2.1
    have hc0 := hk.2.2.2.2.2.1
    have hkn : k < n := by omega
    obtain ⟨h1, h2, h3, h4, h5, h6, h7, h8, h9, h10, h11⟩ := hS
    show LQ (f_L_law_117_b z L xs (nI b0) (nI c0) (some (30, 0)) (some (29, 0)) (nI n) (nI e) (some (9, 0)) (some (18, 0)) (f_L_law_117_L z L xs (nI b0) (nI c0) (some (30, 0)) (some (29, 0)) (nI n) (nI e) (some (9, 0)) (some (18, 0)) f) (nI k) g)
    have ha : atS L xs k < 144 := lw_lt _ (by decide)
    have hnz : lw (scv L xs (16 + k)) (2 * e + 1) < 2 * e + 1 := lw_lt _ (by omega)
    have htv := tv_lt (q := q) (by have := hk.2.2.2.2.1; omega) hc0 ha
    have i1 : IN (setI g (29, 0) k (nI (atS L xs k))) V := IN.setA h1 (Or.inl rfl)
    have A1 : AL (setI g (29, 0) k (nI (atS L xs k))) := h2.set
    obtain ⟨g2, s1, s2, s3⟩ := station8 (z := z) i1 h3 (by omega) h4 ha
    have A2 := A1.fr (s3.cl (by decide))
    have e1 : aldI (some (29, 0)) (nI k) (setI g (29, 0) k (nI (atS L xs k))) = some (nI (atS L xs k)) := by rw [ald29 A1 (by omega), gI_set, if_pos ⟨rfl, rfl⟩]
    have e2 : aldI (some (29, 0)) (nI k) g2 = some (nI (atS L xs k)) := by rw [ald29 A2.1 (by omega), A2.2.1, gI_set, if_pos ⟨rfl, rfl⟩]
    have q2 : slo (vs (vs V 41 k (nI (atS L xs k))) 10 6 (nI (k + 1))) = q := h8
    have e3 : f_X8_travel z (some (9, 0)) (nI c0) (nI (atS L xs k)) g2 = some (nI (tv q c0 (atS L xs k)), g2) := by rw [travel8 s2 hc0 ha, q2]
    have ecm : nI b0 + nI (tv q c0 (atS L xs k)) + nI (lw (scv L xs (16 + k)) (2 * e + 1)) - nI e = nI (cmS L xs e q c0 b0 k) := by
      rw [nI_add, nI_add, pk_sub (by omega)]; rfl
    have hcm := hk.le hkn
    have A3 : AL (setI g2 (30, 0) k (nI (cmS L xs e q c0 b0 k))) := A2.1.set
    have e4 : aldI (some (30, 0)) (nI k) (setI g2 (30, 0) k (nI (cmS L xs e q c0 b0 k))) = some (nI (cmS L xs e q c0 b0 k)) := by rw [ald30 A3 (by omega), gI_set, if_pos ⟨rfl, rfl⟩]
    unfold f_L_law_117_b
    rw [if_neg (fun w => by have := (nI_leI (by omega) (by omega)).mp w; omega), show (6 : Int32) = nI 6 from rfl, nI_add, cellS hL (by omega), ob, show (144 : Int32) = nI 144 from rfl, lowS _ (by decide) (by decide), ob]
    show LQ ((astI (some (29, 0)) (nI k) (nI (atS L xs k)) g).bind _)
    rw [ast29 h2 (by omega), ob, e1, ob]
    simp only [ick_X, s1, ob]
    rw [if_pos trivial]
    simp only [e2, e3, ob]
    rw [show (16 : Int32) = nI 16 from rfl, nI_add, cellS hL (by omega), ob, show (2 : Int32) = nI 2 from rfl, pk_mul, show (1 : Int32) = nI 1 from rfl, nI_add, lowS _ (by omega) (by omega), ob]
    show LQ ((astI (some (30, 0)) (nI k) (nI b0 + nI (tv q c0 (atS L xs k)) + nI (lw (scv L xs (16 + k)) (2 * e + 1)) - nI e) g2).bind _)
    rw [ecm, ast30 A2.1 (by omega), ob, e4, ob, if_pos (show (0 : Int32) ≤ nI (cmS L xs e q c0 b0 k) from nIge (by omega)), ob, ast30 A3 (by omega), ob, nI_add]
    have A4 : AL (setI (setI g2 (30, 0) k (nI (cmS L xs e q c0 b0 k))) (30, 0) k (nI (cmS L xs e q c0 b0 k))) := A3.set
    have n2 : nst (vs (vs V 41 k (nI (atS L xs k))) 10 6 (nI (k + 1))) = k + 1 := by
      show (vs (vs V 41 k (nI (atS L xs k))) 10 6 (nI (k + 1)) 10 6).toNatClampNeg = k + 1
      rw [vs_eq]; exact nI_cl (by omega)
    refine loop1 hz hL hk m f (k + 1) _ (vs (vs V 41 k (nI (atS L xs k))) 10 6 (nI (k + 1))) ⟨IN.setA (IN.setA s2 (Or.inr rfl)) (Or.inr rfl), A4, n2, h4, h5, h6, h7, h8, h9, fun i hi => ?_, fun i hi => ?_⟩ (by omega) (by omega)
    · show (vs (vs V 41 k (nI (atS L xs k))) 10 6 (nI (k + 1)) 41 i).toNatClampNeg = atS L xs i
      by_cases ei : i = k
      · subst ei
        rw [vs_ne (by decide), vs_eq]; exact nI_cl (by omega)
      · rw [vs_ne (by decide), vs_nk ei]; exact h10 i (by omega)
    · rw [gI_set]
      by_cases ei : i = k
      · subst ei
        rw [if_pos ⟨rfl, rfl⟩]
      · rw [if_neg (fun w => ei w.2), gI_set, if_neg (fun w => ei w.2), A2.2.2, gI_set, if_neg (by simp)]
        exact h11 i (by omega)
/-- the law, from its beginning -/
theorem law_go (hz : 2000 ≤ z) {L : Nat} (hL : L ≤ 260) {xs : Nat → Int32} : LQ (f_L_law z L xs (some (18, 0)) gZ) := by
  obtain ⟨I, c1, c2, c3⟩ := cls0 (z := z) hz
  have i0 := start35 c2 c3
  have n9 : (9, 0) ∉ gL gZ := by
    show (9, 0) ∉ ([] : List Nm)
    decide
  have l0 : lw (scv L xs 0) 8 < 8 := lw_lt _ (by decide)
  have l1 : lw (scv L xs 1) 7 < 7 := lw_lt _ (by decide)
  have l2 : lw (scv L xs 2) 300 < 300 := lw_lt _ (by decide)
  have l3 : lw (scv L xs 3) 144 < 144 := lw_lt _ (by decide)
  have l4 : lw (scv L xs 4) 144 < 144 := lw_lt _ (by decide)
  have l5 : lw (scv L xs 5) 50 < 50 := lw_lt _ (by decide)
  obtain ⟨g1, r1, r2, r3⟩ := rule8 (z := z) hz i0 (show npk V0 = 0 by decide) (q := 1 + lw (scv L xs 2) 300) (e := lw (scv L xs 0) 8) (by omega) (by omega) (by omega)
  have w1 : ntw (vs (vs V0 10 3 (nI (1 + lw (scv L xs 2) 300))) 10 4 (nI (lw (scv L xs 0) 8))) = 0 := (show ntw V0 = 0 by decide)
  obtain ⟨g2, t1, t2, t3, t4, t5⟩ := town8 (z := z) r2 (by rw [w1]; decide) (d := lw (scv L xs 3) 144) l3
  rw [w1] at t1 t2
  have hl6 : ∀ c, c = 29 ∨ c = 30 → (c, 0) ∉ gL g2 := fun c hc q => by
    have q2 := (t3 (c, 0) (PC.n (by rcases hc with e | e <;> subst e <;> decide) (by omega))).2.2.2.mp q
    rw [r3.l, gL_A6] at q2
    rcases hc with e | e <;> subst e <;> exact absurd q2 (by decide)
  have gc1 : gc g1 = 13 ∧ gs g1 = 480 := by
    show g1.2.2.1 = 13 ∧ g1.2.2.2 = 480
    rw [r3.2.1]; exact ⟨rfl, rfl⟩
  generalize hV : vs (vs (vs (vs V0 10 3 (nI (1 + lw (scv L xs 2) 300))) 10 4 (nI (lw (scv L xs 0) 8))) 42 0 (nI (lw (scv L xs 3) 144))) 10 9 (nI (0 + 1)) = V at t2
  have v10 : ∀ k, V 10 k = if k = 9 then 1 else if k = 4 then nI (lw (scv L xs 0) 8) else if k = 3 then nI (1 + lw (scv L xs 2) 300) else V0 10 k := fun k => by
    rw [← hV]
    by_cases k9 : k = 9
    · subst k9; rw [vs_eq]; rfl
    rw [vs_nk k9, vs_ne (by decide), if_neg k9]
    by_cases k4 : k = 4
    · subst k4; rw [vs_eq]; rfl
    rw [vs_nk k4, if_neg k4]
    by_cases k3 : k = 3
    · subst k3; rw [vs_eq]; rfl
    rw [vs_nk k3, if_neg k3]
  have v6 : nst V = 0 := by unfold nst; rw [v10, if_neg (by decide), if_neg (by decide), if_neg (by decide)]; decide
  have v15 : npk V = 0 := by unfold npk; rw [v10, if_neg (by decide), if_neg (by decide), if_neg (by decide)]; decide
  have v20 : nqk V = 0 := by unfold nqk; rw [v10, if_neg (by decide), if_neg (by decide), if_neg (by decide)]; decide
  have v9 : ntw V = 1 := by unfold ntw; rw [v10, if_pos rfl]; decide
  have v5 : nw V = 0 := by unfold nw; rw [v10, if_neg (by decide), if_neg (by decide), if_neg (by decide)]; decide
  have v3 : slo V = 1 + lw (scv L xs 2) 300 := by unfold slo; rw [v10, if_neg (by decide), if_neg (by decide), if_pos rfl]; exact nI_cl (by omega)
  have v4 : err V = lw (scv L xs 0) 8 := by unfold err; rw [v10, if_neg (by decide), if_pos rfl]; exact nI_cl (by omega)
  have cb1 : CB (newN g2 (29, 0) 9 9) V := by
    have x1 : gc (newN g2 (29, 0) 9 9) = gc g2 + 1 := rfl
    have x2 : gs (newN g2 (29, 0) 9 9) = gs g2 + 9 := rfl
    unfold CB
    rw [x1, x2]
    exact ⟨by omega, by omega⟩
  have i2 := IN.newA t2 (Or.inl rfl) cb1
  have cb2 : CB (newN (newN g2 (29, 0) 9 9) (30, 0) 9 9) V := by
    have x1 : gc (newN (newN g2 (29, 0) 9 9) (30, 0) 9 9) = gc g2 + 2 := rfl
    have x2 : gs (newN (newN g2 (29, 0) 9 9) (30, 0) 9 9) = gs g2 + 18 := rfl
    unfold CB
    rw [x1, x2]
    exact ⟨by omega, by omega⟩
  have i3 := IN.newA i2 (Or.inr rfl) cb2
  have m1 : mkI (29, 0) (nI 9) g2 = some (some (29, 0), newN g2 (29, 0) 9 9) := mkI_X (by decide) (by decide) (hl6 29 (Or.inl rfl)) (by decide)
  have m2 : mkI (30, 0) (nI 9) (newN g2 (29, 0) 9 9) = some (some (30, 0), newN (newN g2 (29, 0) 9 9) (30, 0) 9 9) := mkI_X (by decide) (by decide) (by
    show (30, 0) ∉ gL g2 ++ [(29, 0)]
    have := hl6 30 (Or.inr rfl)
    simp [this]) (by decide)
  have A : AL (newN (newN g2 (29, 0) 9 9) (30, 0) 9 9) := ⟨rfl, rfl⟩
  have hk : OKc (2 + lw (scv L xs 1) 7) (lw (scv L xs 0) 8) (1 + lw (scv L xs 2) 300) (lw (scv L xs 4) 144) (10 + lw (scv L xs 5) 50) (atS L xs) (cmS L xs (lw (scv L xs 0) 8) (1 + lw (scv L xs 2) 300) (lw (scv L xs 4) 144) (10 + lw (scv L xs 5) 50)) := okS (by omega) (by omega) (by omega) (by omega) (by omega) l4 (by omega) (by omega)
  have fin := loop1 (z := z) hz hL hk (2 + lw (scv L xs 1) 7) z 0 (newN (newN g2 (29, 0) 9 9) (30, 0) 9 9) V ⟨i3, A, v6, v15, v20, v9, v5, v3, v4, fun i hi => absurd hi (Nat.not_lt_zero _), fun i hi => absurd hi (Nat.not_lt_zero _)⟩ (by omega) (by omega)
  have S : ∀ (j : Nat) (g : Hp), j < 100 → f_L_cell z L xs (some (18, 0)) (nI j) g = some (scv L xs j, g) := fun j g hj => cellS hL (by omega) g
  unfold f_L_law
  rw [mkO_X n9, ob]
  simp only [nnl_X, flds, List.length]
  rw [show (0 + 1 + 1 + 1 + 1 + 1 + 1 + 1 + 1 + 1 + 1 + 1 + 1 + 1 + 1 : Nat) = 14 from rfl, c1, ob]
  rw [show (0 : Int32) = nI 0 from rfl, S 0 _ (by decide), ob, show (8 : Int32) = nI 8 from rfl, lowS _ (by decide) (by decide), ob]
  rw [show (1 : Int32) = nI 1 from rfl, S 1 _ (by decide), ob, show (7 : Int32) = nI 7 from rfl, lowS _ (by decide) (by decide), ob]
  rw [show (2 : Int32) = nI 2 from rfl, S 2 _ (by decide), ob, show (300 : Int32) = nI 300 from rfl, lowS _ (by decide) (by decide), ob]
  simp only [ick_X, nI_add, r1, ob]
  rw [if_pos (show (1 : Int32) = nI 1 from rfl)]
  rw [show (3 : Int32) = nI 3 from rfl, S 3 _ (by decide), ob, show (144 : Int32) = nI 144 from rfl, lowS _ (by decide) (by decide), ob]
  simp only [t1, ob]
  rw [if_pos trivial]
  rw [show (9 : Int32) = nI 9 from rfl, m1, ob, m2, ob]
  rw [show (4 : Int32) = nI 4 from rfl, S 4 _ (by decide), ob, lowS _ (by decide) (by decide), ob]
  rw [show (5 : Int32) = nI 5 from rfl, S 5 _ (by decide), ob, show (50 : Int32) = nI 50 from rfl, lowS _ (by decide) (by decide), ob]
  rw [show (10 : Int32) = nI 10 from rfl, nI_add]
  exact fin
end LAW
