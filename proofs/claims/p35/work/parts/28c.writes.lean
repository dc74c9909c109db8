section WRJ
variable {z : Nat}
theorem HC.forget {g : Hp} {V : VV} : HC (setI g (1, 0) 5 (-9)) V := Or.inl (by rw [gI_set, if_pos ⟨rfl, rfl⟩])
theorem forget8 {g : Hp} : f_X0_forget z (some (1, 0)) g = some ((), setI g (1, 0) 5 (-9)) := by simp only [f_X0_forget, pI_X, Option.bind_some]
theorem later8 {g : Hp} {V : VV} (h : IN g V) {i : Nat} (hi : i ≤ 100000 - nw V) : ∃ g2, f_X8_later z (some (9, 0)) (nI i) g = some (nI (nw V + i), g2) ∧ IN g2 (vs V 10 5 (nI (nw V + i))) ∧ Ch [1, 9] g g2 := by
  obtain ⟨hn, hn2⟩ := h.v.hv.no
  have e0 : (100000 : Int32) - nI (nw V) = nI (100000 - nw V) := by rw [show (100000 : Int32) = nI 100000 from rfl, pk_sub hn2]
  have h1 : ¬ inB (nI i) 0 (100000 - V 10 5) = 0 := by
    unfold inB
    rw [hn, e0, show (0 : Int32) = nI 0 from rfl, if_neg (fun w => by have := (nI_ltI (by omega) (by omega)).mp w; omega), if_neg (fun w => by have := (nI_ltI (by omega) (by omega)).mp w; omega)]; decide
  have hev : Ev [] [5] V (vs V 10 5 (V 10 5 + nI i)) := (Ev.rf _ _ V).t (by decide)
  have e5 : V 10 5 + nI i = nI (nw V + i) := by rw [hn, nI_add]
  rw [← e5]
  have hch : Ch [1, 9] g (setI (setI g (9, 0) 10 (V 10 5 + nI i)) (1, 0) 5 (-9)) := (Ch.set (by decide)).tr (Ch.set (by decide))
  refine ⟨setI (setI g (9, 0) 10 (V 10 5 + nI i)) (1, 0) 5 (-9), ?_, h.upd hch hev (by decide) (by decide) ?_ ?_ HC.forget (h.vf.cg hev (by decide) (by decide)), hch⟩
  · have e : getR (some (9, 0)) 9 6 (setI g (9, 0) 10 (V 10 5 + nI i)) = some (some (1, 0)) := gr_C (g := setI g (9, 0) 10 (V 10 5 + nI i)) h.b1
    simp only [f_X8_later, gi_C, h.f10, in8, Option.bind_some, if_neg h1, pu_C, e, ick_X, forget8, gI_set]
    simp
  · have e6 : vs V 10 5 (V 10 5 + nI i) 10 5 = nI (nw V + i) := vs_eq.trans e5
    have e7 : nw (vs V 10 5 (V 10 5 + nI i)) = nw V + i := by
      show (vs V 10 5 (V 10 5 + nI i) 10 5).toNatClampNeg = _
      rw [e6]; exact nI_cl (by omega)
    obtain ⟨hv, w⟩ := h.v
    obtain ⟨v1, v2, v3, v4, v5, v6, v7⟩ := hv
    refine ⟨⟨v1, v2, v3, v4, ?_, v6, fun p hp => ?_⟩, w⟩
    · rw [e7]; exact ⟨e6, by omega⟩
    · obtain ⟨w1, w2, w3, w4⟩ := v7 p hp
      refine ⟨w1, w2, w3, ?_⟩
      rw [e7]
      exact Nat.le_trans w4 (by omega)
  · intro n k v hz hn hk
    obtain ⟨c, j⟩ := n
    simp only [List.mem_cons, List.not_mem_nil, or_false] at hn
    rcases hn with rfl | rfl
    · simp [cI] at hk
    · have hj : j = 0 := hz (by simp)
      subst hj
      rw [gI_set, if_neg (by simp), gI_set]
      by_cases e : k = 10
      · subst e
        simp [cI, vs] at hk
        rw [if_pos ⟨rfl, rfl⟩]; exact hk
      · rw [if_neg (by simp [e])]
        refine h.i (v := v) ?_
        rw [← hk]
        simp [cI, vs, e]
end WRJ
