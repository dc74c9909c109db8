section ROW
variable {z : Nat}
theorem begin8_L {i : Nat} (p : Int32) : ∀ (n v : Nat) (g1 : Hp), gR g1 (5, i) 0 = some (25, i) → gN g1 (25, i) = 30 → v ≤ 30 → 30 - v < n → (∀ k, k < v → gI g1 (25, i) k = 0) → ∃ g2, f_X4_begin_2_L z (some (5, i)) p n (nI v) g1 = some (30, g2) ∧ Ch [25] g1 g2 ∧ (∀ k, k < 30 → gI g2 (25, i) k = 0) ∧ ∀ j, j ≠ i → gI g2 (25, j) = gI g1 (25, j)
  | 0, v, _, _, _, _, h2, _ => absurd h2 (Nat.not_lt_zero _)
  | n + 1, v, g1, hr, hl, h1, h2, h3 => by
    show ∃ g2, f_X4_begin_2_b z (some (5, i)) p (f_X4_begin_2_L z (some (5, i)) p n) (nI v) g1 = _ ∧ _
    have ha : alen (some (25, i)) g1 = some (nI 30) := by simp [alen, hl, nI]
    simp only [f_X4_begin_2_b, gR_X, Option.bind_some, hr, ha]
    by_cases he : 30 ≤ v
    · have e : v = 30 := by omega
      rw [if_pos ((nI_leI (by omega) (by omega)).mpr he)]
      subst e
      exact ⟨g1, rfl, Ch.rf _ _, h3, fun _ _ => rfl⟩
    · rw [if_neg (fun w => he ((nI_leI (by omega) (by omega)).mp w)), ast_X hl (by decide) (by decide) (by omega) (by decide)]
      simp only [Option.bind_some, nI_1]
      obtain ⟨g2, k1, k2, k3, k4⟩ := begin8_L p n (v + 1) (setI g1 (25, i) v 0) hr hl (by omega) (by omega) (fun k hk => by
        rw [gI_set]
        by_cases e : k = v
        · rw [if_pos ⟨rfl, e⟩]
        · rw [if_neg (fun w => e w.2)]; exact h3 k (by omega))
      refine ⟨g2, k1, (Ch.set (show 25 ∈ [25] by decide)).tr k2, k3, fun j hj => ?_⟩
      rw [k4 j hj]
      funext k
      rw [gI_set, if_neg (by simp [hj])]
theorem row9_L {g : Hp} (h : SM g) {i : Nat} (hi : i < 10) (p : Int32) : ∀ (n v : Nat) (V1 : VV), v ≤ 30 → 30 - v < n → (∀ k, k < v → V1 44 (30 * i + k) = 0) → ∃ V2, f_X9_row_35_L z (some (10, 0)) (nI i) p n (nI v) (wM g V1) = some (30, wM g V2) ∧ Ev [44] [] V1 V2 ∧ (∀ k, k < 30 → V2 44 (30 * i + k) = 0) ∧ ∀ j, j < 30 * i ∨ 30 * i + 30 ≤ j → V2 44 j = V1 44 j
  | 0, v, _, _, h2, _ => absurd h2 (Nat.not_lt_zero _)
  | n + 1, v, V1, h1, h2, h3 => by
    show ∃ V2, f_X9_row_35_b z (some (10, 0)) (nI i) p (f_X9_row_35_L z (some (10, 0)) (nI i) p n) (nI v) (wM g V1) = _ ∧ _
    unfold f_X9_row_35_b
    rw [show (30 : Int32) = nI 30 from rfl]
    by_cases he : 30 ≤ v
    · have e : v = 30 := by omega
      rw [if_pos ((nI_leI (by omega) (by omega)).mpr he)]
      subst e
      exact ⟨V1, rfl, Ev.rf _ _ _, h3, fun _ _ => rfl⟩
    · rw [if_neg (fun w => he ((nI_leI (by omega) (by omega)).mp w)), pk_mul, nI_add]
      simp only [gr_M h, mRef, Option.bind_some]
      rw [as_M h (by decide) (by decide) (vp_n (N := 300) (by omega) (by decide)), nI_cl (show 30 * i + v < 2147483648 by omega)]
      simp only [Option.bind_some, nI_1]
      obtain ⟨V2, k1, k2, k3, k4⟩ := row9_L h hi p n (v + 1) (vs V1 44 (30 * i + v) 0) (by omega) (by omega) (fun k hk => by
        by_cases e : k = v
        · rw [e, vs_eq]
        · rw [vs_nk (by omega)]; exact h3 k (by omega))
      exact ⟨V2, k1, ((Ev.rf _ _ _).s (by decide) (by decide)).tr k2, k3, fun j hj => by rw [k4 j hj, vs_nk (by omega)]⟩
theorem miss8 {g : Hp} {V : VV} (h : IN g V) {i : Nat} (hi : i < nst V) : f_X4_isMissing z (some (5, i)) g = some ((if V 43 i = -9 then 1 else 0), g) := by
  simp only [f_X4_isMissing, gI_X, Option.bind_some, h.r1 hi]
  by_cases e : V 43 i = -9
  · simp only [if_pos e]; exact rtZ_1
  · rcases h.v.sz hi with e2 | ⟨m, hm, e2⟩
    · exact absurd e2 e
    · simp only [if_neg e]
      rw [if_neg (fun w => ?_)]
      · exact rtZ_0
      · rw [e2, nI_iI, show (-1 : Int32) = iI (-1) from by decide, iI_eq (by omega) (by omega) (by omega) (by omega)] at w
        omega
theorem szS {g : Hp} {V : VV} (h : IN g V) {i : Nat} (hi : i < nst V) : (V 43 i = -9 ∧ gI g (5, i) 1 = -1) ∨ ∃ m, m ≤ 30 ∧ V 43 i = nI m ∧ V 43 i ≠ -9 ∧ gI g (5, i) 1 = nI m := by
  rcases h.v.sz hi with e | ⟨m, hm, e⟩
  · exact Or.inl ⟨e, by rw [h.r1 hi, if_pos e]⟩
  · have : V 43 i ≠ -9 := by rw [e]; exact nI_ne9 (by omega)
    exact Or.inr ⟨m, hm, e, this, by rw [h.r1 hi, if_neg this, e]⟩
theorem op_row (hz : 2000 ≤ z) (a b : Int32) : OP (fun g => f_X8_row z (some (9, 0)) a b g) (fun g => f_X9_row z (some (10, 0)) a b g) := by
  intro g V h hM0 _
  by_cases h1 : inB a 0 (V 10 6 - 1) = 0
  · refine op_same h hM0 (r := -1) ?_ ?_
    · simp only [f_X8_row, ick_X, isStation8 h, Option.bind_some, h1, if_true]
    · simp only [f_X9_row, ick_M, isStation9, Option.bind_some, h1, if_true]
  obtain ⟨i, hi, rfl⟩ := stOf h h1
  have hi10 := h.v.hv.ns.2
  by_cases h2 : b ≤ 30
  · by_cases h3 : 0 ≤ b
    · obtain ⟨m, hm, rfl⟩ := nI_of (x := b) (Int32.not_lt.mpr h3)
      rw [show (30 : Int32) = nI 30 from rfl, nI_leI (by omega) (by omega)] at h2
      obtain ⟨g2, k1, k2, k3, k4⟩ := begin8_L (z := z) (nI m) z 0 g (gR50 h hi) (gN25 h hi) (by omega) (by omega) (fun k hk => absurd hk (Nat.not_lt_zero _))
      have hev1 : Ev [43, 44] [] V (vs V 43 i (nI m)) := (Ev.rf _ _ V).s (by decide) (by decide)
      have hch : Ch [5, 25] g (setI g2 (5, i) 1 (nI m)) := (k2.sub (by decide)).tr (Ch.set (show 5 ∈ [5, 25] by decide))
      obtain ⟨V2, j1, j2, j3, j4⟩ := row9_L (z := z) (h.sm1 hch) (i := i) (by omega) (nI m) z 0 (vs V 43 i (nI m)) (by omega) (by omega) (fun k hk => absurd hk (Nat.not_lt_zero _))
      have hev : Ev [43, 44] [] V V2 := hev1.tr (j2.sub (by decide) (by decide))
      have e43 : V2 43 = (vs V 43 i (nI m)) 43 := j2.1 43 (by decide) (by decide)
      have ens : nst V2 = nst V := nst_e (hev.2 6 (by decide))
      refine op_upd (hm := hM0) (hvf := h.vf.st hev (by decide) (by decide) (fun s hs _ => ⟨congrFun (hev.1 60 (by decide) (by decide)) s, by rw [e43, vs_nk (by omega)], fun k hk => by rw [j4 _ (by omega), vs_ne (by decide)]⟩)) (C := [5, 25]) (D := [43, 44]) (E := []) (r := nI m) (V2 := V2) h ?_ hch hev (by decide) ?_ (by decide) (by decide) ?_ ?_ ?_
      · simp only [f_X8_row, ick_X, isStation8 h, Option.bind_some, if_neg h1, rowOf8 h hi, f_X4_begin]
        rw [show (30 : Int32) = nI 30 from rfl, if_pos ((nI_leI (by omega) (by omega)).mpr h2), if_pos h3, show (0 : Int32) = nI 0 from rfl, k1]
        simp only [Option.bind_some, pI_X]
      · intro hs
        simp only [f_X9_row, ick_M, isStation9, Option.bind_some, if_neg h1]
        rw [show (30 : Int32) = nI 30 from rfl, if_pos ((nI_leI (by omega) (by omega)).mpr h2), if_pos h3]
        simp only [gr_M hs, mRef, Option.bind_some]
        rw [as_M hs (by decide) (by decide) (vp_n (N := 10) (by omega) (by decide)), nI_cl (show i < 2147483648 by omega)]
        simp only [Option.bind_some]
        rw [show (0 : Int32) = nI 0 from rfl, j1]
        rfl
      · have hv := h.v
        have hr : ∀ r, r ≠ 10 → r ∉ [43, 44] → V2 r = V r := hev.1
        have he : ∀ k, V2 10 k = V 10 k := fun k => hev.2 k (by simp)
        have h10 : V2 10 = V 10 := funext he
        unfold VI HV at hv ⊢
        unfold nst npk slo err nw ntw nqk nms cS cT sP tk sg at hv ⊢
        rw [h10, hr 41 (by decide) (by decide), hr 60 (by decide) (by decide), hr 47 (by decide) (by decide), hr 48 (by decide) (by decide), hr 49 (by decide) (by decide), hr 50 (by decide) (by decide), hr 51 (by decide) (by decide), hr 42 (by decide) (by decide), hr 55 (by decide) (by decide), e43]
        refine ⟨hv.1, hv.2.1, hv.2.2.1, hv.2.2.2.1, fun s hs => ?_, hv.2.2.2.2.2⟩
        by_cases e : s = i
        · rw [e, vs_eq]; exact Or.inr ⟨m, h2, rfl⟩
        · rw [vs_nk e]; exact hv.2.2.2.2.1 s hs
      · intro n k v hz hn hk
        obtain ⟨c, j⟩ := n
        simp only [List.mem_cons, List.not_mem_nil, or_false] at hn
        rcases hn with rfl | rfl
        · simp only [cI, ens, e43] at hk
          simp at hk
          obtain ⟨⟨hj, rfl⟩, hk⟩ := hk
          rw [gI_set]
          by_cases e : j = i
          · subst e
            rw [vs_eq, if_neg (nI_ne9 (by omega))] at hk
            rw [if_pos ⟨rfl, rfl⟩]; exact hk
          · rw [vs_nk e] at hk
            rw [if_neg (by simp [e]), k2.i (by simp), h.r1 hj]; exact hk
        · simp only [cI, ens] at hk
          simp at hk
          obtain ⟨⟨hj, hk30⟩, hk⟩ := hk
          rw [gI_set, if_neg (by simp)]
          by_cases e : j = i
          · subst e
            rw [k3 k hk30, ← hk, j3 k hk30]
          · rw [k4 j e, h.rd hj hk30, ← hk, j4 _ (by omega), vs_ne (by decide)]
      · exact h.h.cg (hev.h (by decide) (by decide)) (fun k => hch.i (by decide)) (fun k => hch.i (by decide)) (fun k => hch.i (by decide))
    · refine of_found (z := z) (f := 5) h hM0 (by decide) ?_ ?_
      · simp only [f_X8_row, ick_X, isStation8 h, Option.bind_some, if_neg h1, if_pos h2, if_neg h3, bindeta]; rfl
      · intro g1 _ hs
        simp only [f_X9_row, ick_M, isStation9, Option.bind_some, if_neg h1, if_pos h2, if_neg h3, bindeta]; rfl
  · refine op_same h hM0 (r := -1) ?_ ?_
    · simp only [f_X8_row, ick_X, isStation8 h, Option.bind_some, if_neg h1, if_neg h2]
    · simp only [f_X9_row, ick_M, isStation9, Option.bind_some, if_neg h1, if_neg h2]
end ROW
