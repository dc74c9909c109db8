theorem wM_self {g : Hp} : wM g (fun c k => gI g (c, 0) k) = g := by
  have : (fun (n : Nm) k => if n.2 = 0 ∧ (n.1 = 10 ∨ 40 ≤ n.1) then gI g (n.1, 0) k else gI g n k) = g.2.1 := by
    funext n k
    by_cases hn : n.2 = 0 ∧ (n.1 = 10 ∨ 40 ≤ n.1)
    · rw [if_pos hn]
      obtain ⟨c, i⟩ := n
      have e : i = 0 := hn.1
      subst e
      rfl
    · rw [if_neg hn]; rfl
  unfold wM
  rw [this]
theorem law_go {z : Nat} (hz : 6000 ≤ z) {L : Nat} (hL : L ≤ 3072) {xs : Nat → Int32} {gM : Hp} (h : IN gM (fun c k => gI gM (c, 0) k) ∧ nms (fun c k => gI gM (c, 0) k) = 0) : ∃ g1, f_L_law_18_L z L xs (some (10, 0)) (some (9, 0)) (some (18, 0)) z 0 gM = some (1, g1) ∧ gc g1 ≤ 600000 ∧ gs g1 ≤ 7302250 :=
  law_L (z := z) (by omega) hL z 0 gM (fun c k => gI gM (c, 0) k) h.1 wM_self (by rw [h.2]; omega) (by omega) (by omega)
theorem law_st {z : Nat} (hz : 6000 ≤ z) {L : Nat} (hL : L ≤ 3072) {xs : Nat → Int32} (I : Nm → Nat → Int32) (h8 : f_X8_init z (some (9, 0)) (newN gZ (9, 0) 0 14) = some ((), gA6 I)) {gM : Hp} (h9 : f_X9_init z (some (10, 0)) (newN (gA6 I) (10, 0) 0 27) = some ((), gM)) : f_L_law z L xs (some (18, 0)) gZ = f_L_law_18_L z L xs (some (10, 0)) (some (9, 0)) (some (18, 0)) z 0 gM := by
  have n9 : (9, 0) ∉ gL gZ := by
    show (9, 0) ∉ ([] : List Nm)
    decide
  have n10 : (10, 0) ∉ gL (gA6 I) := by rw [gL_A6]; decide
  unfold f_L_law
  rw [mkO_X n9]
  simp only [ob, nnl_X, flds, List.length]
  rw [show (0 + 1 + 1 + 1 + 1 + 1 + 1 + 1 + 1 + 1 + 1 + 1 + 1 + 1 + 1 : Nat) = 14 from rfl, h8]
  simp only [ob]
  rw [mkO_X n10]
  simp only [ob, nnl_X, flds, List.length]
  rw [show (0 + 1 + 1 + 1 + 1 + 1 + 1 + 1 + 1 + 1 + 1 + 1 + 1 + 1 + 1 + 1 + 1 + 1 + 1 + 1 + 1 + 1 + 1 + 1 + 1 + 1 + 1 + 1 : Nat) = 27 from rfl, h9]
  simp only [ob]
theorem pure_main (L : Nat) (hL : L ≤ 3072) (xs : Nat → Int32) : ∃ (z : Nat) (g1 : Hp), f_L_law z L xs (some (18, 0)) (([], fun _ _ => none, fun _ => 0), (fun _ _ => 0), 0, 0) = some (1, g1) ∧ gc g1 ≤ 600000 ∧ gs g1 ≤ 7302250 := by
  obtain ⟨I, h1, h2, h3⟩ := cls0 (z := 6000) (by decide)
  obtain ⟨gM, k1, k2, k3, k4, k5, k6, k7, k8⟩ := modE (z := 6000) (gB := gB16 I) (by decide) (by rw [bN_R]; simp [mRef]) (by rw [bN_R]; simp [mRef]) (by rw [bN_N (by decide)]; simp) (by rw [bN_N (by decide)]; simp) (V0_z (by decide))
  obtain ⟨g1, w1, w2, w3⟩ := law_go (z := 6000) (Nat.le_refl _) hL (xs := xs) (start_IN h2 h3 k2 k3 k4 k5 k6 k7 k8)
  exact ⟨6000, g1, (law_st (Nat.le_refl _) hL I h1 ((modB I).trans k1)).trans w1, w2, w3⟩
