section TOW
variable {z : Nat}
theorem mkO_X {g : Hp} {c n : Nat} (h : (c, n) ∉ gL g) : mkO (c, n) c g = some (some (c, n), newN g (c, n) 0 (flds c).length) := by
  unfold mkO
  exact if_pos ⟨rfl, h⟩
theorem lsz_e {g : Hp} {j n : Nat} (h : gI g (0, j) 2 = nI n) (hn : n < 2147483648) : lsz g j = n := by unfold lsz; rw [h, nI_cl hn]
theorem gIn {g : Hp} {m n : Nm} {l s k : Nat} (h : m ≠ n) : gI (newN g n l s) m k = gI g m k := by show (if m = n then 0 else _) = _; rw [if_neg h]
theorem gRn {g : Hp} {m n : Nm} {l s k : Nat} (h : m ≠ n) : gR (newN g n l s) m k = gR g m k := by show (if m = n then none else _) = _; rw [if_neg h]
theorem town8 {g : Hp} {V : VV} (h : IN g V) (h2 : ntw V < 6) {d : Nat} (hd : d < 144) : ∃ g2, f_X8_town z (some (9, 0)) (nI d) g = some (nI (ntw V), g2) ∧ IN g2 (vs (vs V 42 (ntw V) (nI d)) 10 9 (nI (ntw V + 1))) ∧ Fr (PC 1 [7, 13]) g g2 ∧ gc g2 ≤ gc g + 2 ∧ gs g2 ≤ gs g + 821 := by
  have htw := h.v.tw
  have h1 := cl_in hd
  have hfr := h.r.2.2.1.2 (ntw V) (Nat.le_refl _)
  have hL : LR (setI (newN g (7, ntw V) 0 1) (7, ntw V) 0 (nI d)).1 1 7 (ntw V) := LR.fr (j2 := 5) (C := [7]) (g := g) (((Fr.nN (g := g) (n := (7, ntw V)) (l := 0) (s := 1)).tr (Fr.sI (k := 0) (v := nI d))).mono (fun m hm => Or.inr (by rcases hm with e | e <;> (rw [e]; simp)))) (by decide) (by decide) (by decide) h.r.2.2.1.1
  have s1 : gI (setI (newN g (7, ntw V) 0 1) (7, ntw V) 0 (nI d)) (0, 1) 2 = nI (ntw V) := by
    rw [gI_set, if_neg (by simp), gIn (by simp)]; exact h.c1
  obtain ⟨g2, b1, b2, b3, b4, b5, b6⟩ := addJ (z := z) s1 hL (by decide) (by omega) (by decide)
  have F1 : Fr (fun m => m.1 = 7) g (setI (newN g (7, ntw V) 0 1) (7, ntw V) 0 (nI d)) := ((Fr.nN (g := g) (n := (7, ntw V)) (l := 0) (s := 1)).tr (Fr.sI (k := 0) (v := nI d))).mono (fun m hm => by rcases hm with e | e <;> rw [e])
  have F : Fr (PC 1 [7, 13]) g g2 := (F1.tr b4).mono (fun m hm => by
    rcases hm with e | e | e
    · exact Or.inr (by rw [e]; simp)
    · exact Or.inl e
    · exact Or.inr (by rw [e]; simp))
  have hev : Ev [42] [9] V (vs (vs V 42 (ntw V) (nI d)) 10 9 (nI (ntw V + 1))) := ((Ev.rf _ _ V).s (by decide) (by decide)).t (by decide)
  have n2 : ntw (vs (vs V 42 (ntw V) (nI d)) 10 9 (nI (ntw V + 1))) = ntw V + 1 := by
    show (vs (vs V 42 (ntw V) (nI d)) 10 9 (nI (ntw V + 1)) 10 9).toNatClampNeg = _
    rw [vs_eq]; exact nI_cl (by omega)
  have r1 := RC1.fr F (by decide) h.b1
  have sz1 : f_Jx4a65c_size_8abf5 z (some (0, 1)) g2 = some (nI (ntw V + 1), g2) := sizeJ b2
  have ka : kp (vs (vs V 42 (ntw V) (nI d)) 10 9 (nI (ntw V + 1))) = kp V := rfl
  have i7 : ∀ i k, i < ntw V → gI g2 (7, i) k = gI g (7, i) k := fun i k hi => by
    have e1 := congrFun (b4 (7, i) (fun w => by rcases w with w | w <;> simp at w)).1 k
    rw [e1, gI_set, if_neg (by simp; omega), gIn (by simp; omega)]
  have i7n : gI g2 (7, ntw V) 0 = nI d := by
    have e1 := congrFun (b4 (7, ntw V) (fun w => by rcases w with w | w <;> simp at w)).1 0
    rw [e1, gI_set, if_pos ⟨rfl, rfl⟩]
  have f0 : ∀ j, j ≠ 1 → gI g2 (0, j) 2 = gI g (0, j) 2 := fun j hj => congrFun (F (0, j) (PC.n0 (by decide) hj)).1 2
  have x1 : gc (setI (newN g (7, ntw V) 0 1) (7, ntw V) 0 (nI d)) = gc g + 1 := rfl
  have x2 : gs (setI (newN g (7, ntw V) 0 1) (7, ntw V) 0 (nI d)) = gs g + 1 := rfl
  refine ⟨g2, ?_, ?_, F, by omega, by omega⟩
  · simp only [f_X8_town, cell8, Option.bind_some, if_neg h1, gr_C h.b1, cRef, ick_X, sizeJ h.c1]
    rw [show (6 : Int32) = nI 6 from rfl, if_pos ((nI_ltI (by omega) (by omega)).mpr h2), lsz_e h.c1 (by omega), mkO_X hfr]
    simp only [Option.bind_some, nnl_X, f_X6_init, nnu, pI_X, ick_X, flds, List.length]
    rw [show (0 + 1 : Nat) = 1 from rfl, b1]
    simp only [Option.bind_some, gr_C r1, cRef, ick_X, sz1]
    rw [nI_pred]
  · refine h.made F hev (by decide) (by decide) (by decide) ?_ (RCs.fr F (by decide) (by decide) h.r.2.1) ?_ (RCp.fr F (by decide) (by decide) h.r.2.2.2.1) (RCq.fr F (by decide) (by decide) h.r.2.2.2.2.1) (RCm.fr F (by decide) (by decide) h.r.2.2.2.2.2) ⟨(f0 0 (by decide)).trans h.c0, by rw [n2]; exact b2, (f0 2 (by decide)).trans h.c2, (f0 3 (by decide)).trans h.c3, (f0 4 (by decide)).trans h.c4⟩ ?_ ?_ ?_ (h.vf.cg hev (by decide) (by decide))
    · obtain ⟨w0, -, w2, w3, w4, w5, w6⟩ := h.v
      refine ⟨w0, ?_, w2, w3, w4, fun t ht => ?_, w6⟩
      · rw [n2]; exact ⟨vs_eq, by omega⟩
      · rw [n2] at ht
        show vs V 42 (ntw V) (nI d) 42 t = nI ((vs V 42 (ntw V) (nI d) 42 t).toNatClampNeg) ∧ (vs V 42 (ntw V) (nI d) 42 t).toNatClampNeg < 144
        by_cases e : t = ntw V
        · rw [e, vs_eq, nI_cl (by omega)]; exact ⟨rfl, hd⟩
        · rw [vs_nk e]; exact w5 t (by omega)
    · rw [n2]
      refine ⟨b3, fun i hi q => ?_⟩
      have e1 := (b4 (7, i) (fun w => by rcases w with w | w <;> simp at w)).2.2.2.mp q
      have e2 : (7, i) ∈ gL g ++ [(7, ntw V)] := e1
      simp only [List.mem_append, List.mem_singleton, Prod.mk.injEq, true_and] at e2
      rcases e2 with e2 | e2
      · exact h.r.2.2.1.2 i (by omega) e2
      · omega
    · intro c i k v hc hz hk
      simp only [List.mem_cons, List.not_mem_nil, or_false] at hc
      rcases hc with rfl | rfl
      · simp only [cI, n2] at hk
        simp at hk
        obtain ⟨⟨hi, rfl⟩, hk⟩ := hk
        by_cases e : i = ntw V
        · subst e
          rw [vs_ne (by decide), vs_eq] at hk
          rw [i7n]; exact hk
        · rw [vs_ne (by decide), vs_nk e] at hk
          rw [i7 i 0 (by omega), h.t0 (by omega)]; exact hk
      · exact absurd (show 13 ∈ [0, 2, 3, 4, 5, 6, 7, 9, 20, 23, 24, 25, 26, 27, 28] from cI_cls hk) (by decide)
    · exact h.h.cg (hev.h (by decide) (by decide)) (fun k => fr_I F (by decide) (by decide)) (fun k => fr_I F (by decide) (by decide)) (fun k => fr_I F (by decide) (by decide))
    · obtain ⟨c1, c2⟩ := h.c
      have x3 : cnt (vs (vs V 42 (ntw V) (nI d)) 10 9 (nI (ntw V + 1))) = cnt V + 1 := by
        show nst V + ntw _ + npk V + nqk V + kp V = nst V + ntw V + npk V + nqk V + kp V + 1
        rw [n2]; omega
      unfold CB
      rw [x3]
      omega

end TOW
