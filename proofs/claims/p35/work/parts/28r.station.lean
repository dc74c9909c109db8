section STA
variable {z : Nat}
theorem station8 {g : Hp} {V : VV} (h : IN g V) {n d : Nat} (hn : nst V = n) (h2 : n < 10) (h3 : npk V = 0) (hd : d < 144) : ∃ g2, f_X8_station z (some (9, 0)) (nI d) g = some (nI n, g2) ∧ IN g2 (vs (vs V 41 n (nI d)) 10 6 (nI (n + 1))) ∧ Fr (PC 0 [6, 5, 25, 12]) g g2 := by
  have hns := h.v.hv.ns
  have hnp := h.v.hv.np
  have h1 := cl_in hd
  rw [← hn] at h2
  have hlt : nI (nst V) < 10 := by rw [show (10 : Int32) = nI 10 from rfl]; exact (nI_ltI (by omega) (by omega)).mpr h2
  obtain ⟨hf6, hf5, hf25⟩ := h.r.2.1.2.2 (nst V) (Nat.le_refl _)
  have hq0 : nqk V = 0 := by
    rcases Nat.eq_zero_or_pos (nqk V) with w | w
    · exact w
    · have := (h.v.fp w).1; omega
  subst hn
  generalize hn : nst V = n at *
  have ga : ∃ ga, f_X5_init z (some (6, n)) (nI d) (newN g (6, n) 0 3) = some ((), ga) ∧ Fr (fun m => m = (6, n) ∨ m = (5, n) ∨ m = (25, n)) g ga ∧ gI ga (6, n) 0 = nI d ∧ gI ga (6, n) 2 = 0 ∧ gR ga (6, n) 1 = some (5, n) ∧ gR ga (5, n) 0 = some (25, n) ∧ gI ga (5, n) 1 = -1 ∧ gN ga (25, n) = 30 ∧ (∀ k, gI ga (25, n) k = 0) ∧ gc ga = gc g + 3 ∧ gs ga = gs g + 35 := by
    have m5 : (5, n) ∉ gL (newN g (6, n) 0 3) := by
      show (5, n) ∉ gL g ++ [(6, n)]
      have w : (5, n) ∉ gL g := hf5
      simp [w]
    have m25 : ¬ (25, n) ∈ gL (newN (newN g (6, n) 0 3) (5, n) 0 2) := by
      show (25, n) ∉ (gL g ++ [(6, n)]) ++ [(5, n)]
      have w : (25, n) ∉ gL g := hf25
      simp [w]
    have mi : mkI (25, n) 30 (newN (newN g (6, n) 0 3) (5, n) 0 2) = some (some (25, n), newN (newN (newN g (6, n) 0 3) (5, n) 0 2) (25, n) 30 30) := by
      unfold mkI
      exact if_pos ⟨⟨show 20 ≤ 25 by decide, show 25 < 60 by decide⟩, m25, by decide, by decide⟩
    refine ⟨setI (setR (setI (setR (newN (newN (newN g (6, n) 0 3) (5, n) 0 2) (25, n) 30 30) (5, n) 0 (some (25, n))) (5, n) 1 (-1)) (6, n) 1 (some (5, n))) (6, n) 0 (nI d), ?_, ?_, ?_⟩
    · simp only [f_X5_init, nnu, Option.bind_some, nix, mkO_X m5, nnl_X, f_X4_init, flds, List.length]
      rw [show (0 + 1 + 1 : Nat) = 2 from rfl, mi]
      simp only [Option.bind_some, pR_X, pI_X]
    · refine ((((((Fr.nN (g := g) (n := (6, n)) (l := 0) (s := 3)).tr (Fr.nN (n := (5, n)) (l := 0) (s := 2))).tr (Fr.nN (n := (25, n)) (l := 30) (s := 30))).tr Fr.sR).tr Fr.sI).tr Fr.sR).tr Fr.sI |>.mono (fun m hm => ?_)
      rcases hm with (((((hm | hm) | hm) | hm) | hm) | hm) | hm
      · exact Or.inl hm
      · exact Or.inr (Or.inl hm)
      · exact Or.inr (Or.inr hm)
      · exact Or.inr (Or.inl hm)
      · exact Or.inr (Or.inl hm)
      · exact Or.inl hm
      · exact Or.inl hm
    · simp [gI, gR, gN, gc, gs, setI, setR, newN]
  obtain ⟨ga, a1, a2, a3, a4, a5, a6, a7, a8, a9, a10, a11⟩ := ga
  have A2 : Fr (PC 5 [6, 5, 25]) g ga := a2.mono (fun m hm => Or.inr (by rcases hm with e | e | e <;> (rw [e]; simp)))
  have hL : LR ga.1 0 6 n := LR.fr A2 (by decide) (by decide) (by decide) (by have := h.r.2.1.1; rwa [hn] at this)
  have s1 : gI ga (0, 0) 2 = nI n := (congrFun (A2 (0, 0) (PC.n0 (by decide) (by decide))).1 2).trans (by have := h.c0; rwa [hn] at this)
  obtain ⟨g2, b1, b2, b3, b4, b5, b6⟩ := addJ (z := z) s1 hL (by decide) (by omega) (by decide)
  have F : Fr (PC 0 [6, 5, 25, 12]) g g2 := (a2.tr b4).mono (fun m hm => by
    rcases hm with (e | e | e) | e | e
    · exact Or.inr (by rw [e]; simp)
    · exact Or.inr (by rw [e]; simp)
    · exact Or.inr (by rw [e]; simp)
    · exact Or.inl e
    · exact Or.inr (by rw [e]; simp))
  have hev : Ev [41] [6] V (vs (vs V 41 n (nI d)) 10 6 (nI (n + 1))) := ((Ev.rf _ _ V).s (by decide) (by decide)).t (by decide)
  have n2 : nst (vs (vs V 41 n (nI d)) 10 6 (nI (n + 1))) = n + 1 := by
    show (vs (vs V 41 n (nI d)) 10 6 (nI (n + 1)) 10 6).toNatClampNeg = _
    rw [vs_eq]; exact nI_cl (by omega)
  have r1 := RC1.fr F (by decide) h.b1
  have sz1 : f_Jx4a65c_size_8abf5 z (some (0, 0)) g2 = some (nI (n + 1), g2) := sizeJ b2
  have hb : ∀ c i, c ≠ 0 → c ≠ 12 → gI g2 (c, i) = gI ga (c, i) ∧ gR g2 (c, i) = gR ga (c, i) ∧ gN g2 (c, i) = gN ga (c, i) ∧ ((c, i) ∈ gL g2 ↔ (c, i) ∈ gL ga) := fun c i c0 c12 => b4 (c, i) (fun w => by rcases w with w | w <;> simp at w <;> omega)
  have hold : ∀ c i, c ≠ 0 → i ≠ n → gI ga (c, i) = gI g (c, i) ∧ gR ga (c, i) = gR g (c, i) ∧ gN ga (c, i) = gN g (c, i) ∧ ((c, i) ∈ gL ga ↔ (c, i) ∈ gL g) := fun c i c0 hi => a2 (c, i) (fun w => by rcases w with w | w | w <;> simp at w <;> omega)
  have f0 : ∀ j, j ≠ 0 → gI g2 (0, j) 2 = gI g (0, j) 2 := fun j hj => congrFun (F (0, j) (PC.n0 (by decide) hj)).1 2
  have hdf : V 60 n = 0 ∧ V 43 n = -9 ∧ ∀ k, k < 30 → V 44 (30 * n + k) = 0 := by
    have := h.vf.1 n (by omega) h2
    exact this
  refine ⟨g2, ?_, ?_, F⟩
  · simp only [f_X8_station, cell8, Option.bind_some, if_neg h1, gr_C h.b1, cRef, ick_X, sizeJ (show gI g (0, 0) 2 = nI n from hn ▸ h.c0), if_pos hlt, emptyJ h.c2 (show npk V < 2147483648 by omega), if_pos h3]
    rw [if_neg (by decide), lsz_e (show gI g (0, 0) 2 = nI n from hn ▸ h.c0) (by omega), mkO_X hf6]
    simp only [Option.bind_some, nnl_X, flds, List.length]
    rw [show (0 + 1 + 1 + 1 : Nat) = 3 from rfl, a1]
    simp only [Option.bind_some, b1, gr_C r1, cRef, ick_X, sz1]
    rw [nI_pred]
  · refine h.made F hev (by decide) (by decide) (by decide) ?_ ?_ (RCt.fr F (by decide) (by decide) h.r.2.2.1) (RCp.fr F (by decide) (by decide) h.r.2.2.2.1) (RCq.fr F (by decide) (by decide) h.r.2.2.2.2.1) (RCm.fr F (by decide) (by decide) h.r.2.2.2.2.2) ⟨by rw [n2]; exact b2, (f0 1 (by decide)).trans h.c1, (f0 2 (by decide)).trans h.c2, (f0 3 (by decide)).trans h.c3, (f0 4 (by decide)).trans h.c4⟩ ?_ ?_ ?_ ⟨fun s h3 h4 => h.vf.1 s (by rw [n2] at h3; omega) h4, h.vf.2⟩
    · obtain ⟨⟨-, w1, w2, w3, w4, w5, w6⟩, w7, w8, w9, wa, wb, wc⟩ := h.v
      refine ⟨⟨?_, w1, w2, w3, w4, fun s hs => ?_, fun p hp => ?_⟩, w7, w8, w9, fun s hs => ?_, wb, wc⟩
      · rw [n2]; exact ⟨vs_eq, by omega⟩
      · rw [n2] at hs
        show vs V 41 n (nI d) 41 s = nI ((vs V 41 n (nI d) 41 s).toNatClampNeg) ∧ (vs V 41 n (nI d) 41 s).toNatClampNeg < 144 ∧ (V 60 s = 0 ∨ V 60 s = 1)
        by_cases e : s = n
        · rw [e, vs_eq, nI_cl (by omega)]; exact ⟨rfl, hd, Or.inl hdf.1⟩
        · rw [vs_nk e]; exact w5 s (by omega)
      · have : p < npk V := hp
        omega
      · rw [n2] at hs
        by_cases e : s = n
        · rw [e]; exact Or.inl hdf.2.1
        · exact wa s (by omega)
    · rw [n2]
      refine ⟨b3, fun i hi => ?_, fun i hi => ?_⟩
      · have x6 := hb 6 i (by decide) (by decide)
        have x5 := hb 5 i (by decide) (by decide)
        have x25 := hb 25 i (by decide) (by decide)
        by_cases e : i = n
        · subst e
          exact ⟨(congrFun x6.2.1 1).trans a5, (congrFun x5.2.1 0).trans a6, x25.2.2.1.trans a8⟩
        · have y := h.r.2.1.2.1 i (by omega)
          exact ⟨(congrFun (x6.2.1.trans (hold 6 i (by decide) e).2.1) 1).trans y.1, (congrFun (x5.2.1.trans (hold 5 i (by decide) e).2.1) 0).trans y.2.1, (x25.2.2.1.trans (hold 25 i (by decide) e).2.2.1).trans y.2.2⟩
      · have y := h.r.2.1.2.2 i (by omega)
        exact ⟨fun q => y.1 ((hold 6 i (by decide) (by omega)).2.2.2.mp ((hb 6 i (by decide) (by decide)).2.2.2.mp q)), fun q => y.2.1 ((hold 5 i (by decide) (by omega)).2.2.2.mp ((hb 5 i (by decide) (by decide)).2.2.2.mp q)), fun q => y.2.2 ((hold 25 i (by decide) (by omega)).2.2.2.mp ((hb 25 i (by decide) (by decide)).2.2.2.mp q))⟩
    · intro c i k v hc hz hk
      simp only [List.mem_cons, List.not_mem_nil, or_false] at hc
      rcases hc with rfl | rfl | rfl | rfl
      · simp only [cI, n2] at hk
        simp at hk
        obtain ⟨hi, hk⟩ := hk
        rw [(hb 6 i (by decide) (by decide)).1]
        by_cases e : i = n
        · subst e
          by_cases k0 : k = 0
          · subst k0; simp [vs] at hk; rw [a3]; exact hk
          · by_cases k2 : k = 2
            · subst k2; simp [vs, hdf.1] at hk; rw [a4]; exact hk
            · simp [k0, k2] at hk
        · rw [(hold 6 i (by decide) e).1]
          by_cases k0 : k = 0
          · subst k0; simp [vs, e] at hk; rw [h.s0 (by omega)]; exact hk
          · by_cases k2 : k = 2
            · subst k2; simp [vs] at hk; rw [h.s2 (by omega)]; exact hk
            · simp [k0, k2] at hk
      · simp only [cI, n2] at hk
        simp at hk
        obtain ⟨⟨hi, rfl⟩, hk⟩ := hk
        rw [(hb 5 i (by decide) (by decide)).1]
        by_cases e : i = n
        · subst e
          simp [vs, hdf.2.1] at hk; rw [a7]; exact hk
        · rw [(hold 5 i (by decide) e).1, h.r1 (by omega)]; simp [vs] at hk; exact hk
      · simp only [cI, n2] at hk
        simp at hk
        obtain ⟨⟨hi, hk3⟩, hk⟩ := hk
        rw [(hb 25 i (by decide) (by decide)).1]
        by_cases e : i = n
        · subst e
          simp [vs] at hk; rw [a9, ← hk, hdf.2.2 k hk3]
        · rw [(hold 25 i (by decide) e).1, h.rd (by omega) hk3]; simp [vs] at hk; exact hk
      · exact absurd (show 12 ∈ [0, 2, 3, 4, 5, 6, 7, 9, 20, 23, 24, 25, 26, 27, 28] from cI_cls hk) (by decide)
    · rcases h.h with w | ⟨q, hq, -⟩
      · exact Or.inl ((fr_I F (by decide) (by decide)).trans w)
      · omega
    · obtain ⟨c1, c2⟩ := h.c
      have x3 : cnt (vs (vs V 41 n (nI d)) 10 6 (nI (n + 1))) = cnt V + 1 := by
        show nst _ + ntw V + npk V + nqk V + kp V = nst V + ntw V + npk V + nqk V + kp V + 1
        rw [n2, hn]; omega
      unfold CB
      rw [x3]
      omega

end STA
