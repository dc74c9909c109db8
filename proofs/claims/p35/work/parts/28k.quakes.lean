section QUA
variable {z : Nat}
theorem IN.rows {g : Hp} {V V2 : VV} (h : IN g V) (e : EqR V V2) : IN (wM g V2) V2 := by
  refine h.upd (C := []) (Ch.rf _ _) (Ev.q e) (by decide) (by decide) (h.v.cg (Ev.q e) (by decide) (by decide) ?_) (fun n k v _ hn _ => absurd hn (by simp)) (h.h.cg ((Ev.q e).h (by decide) (by decide)) (fun _ => rfl) (fun _ => rfl) (fun _ => rfl)) (h.vf.cg (Ev.q e) (by decide) (by decide))
  rw [nms_e (by rw [e 10 (by decide) (by decide)]), e 10 (by decide) (by decide)]; exact h.v.ms
def tqF (V : VV) (q : Nat) (b : Int32) : Int32 := if b = 0 then nI (cntF V q (npk V)) else if b = 1 then nI (ncl V q 144) else if b = 2 then iI (lwF V q 144) else if b = 3 then iI (hgF V q 144) else if nI (ncl V q 144) = 0 then 1 else 0
theorem VI.eqr {V V2 : VV} (h : VI V) (e : EqR V V2) : VI V2 := by
  refine h.cg (Ev.q e) (by decide) (by decide) ?_
  rw [nms_e (by rw [e 10 (by decide) (by decide)]), e 10 (by decide) (by decide)]; exact h.ms
theorem quake8 (hz : 2000 ≤ z) {g : Hp} {V : VV} (h : IN g V) {q : Nat} (hq : q < nqk V) {b : Int32} (hb : ¬ inB b 0 4 = 0) : ∃ g2, f_X8_quake z (some (9, 0)) (nI q) b g = some (tqF V q b, g2) ∧ Ch [1, 21, 22] g g2 ∧ IN g2 V := by
  have hqi : ¬ inB (nI q) 0 (V 10 20 - 1) = 0 := by have := h.v.qk; rw [this.1, inB_in hq (by omega)]; decide
  obtain ⟨g2, a1, a2, a3, a4, a5, a6, a7⟩ := heapOf8 hz h hq
  have hov : f_X8_isOver z (some (9, 0)) (nI q) g = some ((if nI (ncl V q 144) = 0 then 1 else 0), g2) := by
    simp only [f_X8_isOver, ick_X, a1, Option.bind_some, gI_X, a5]
    split
    · exact rtZ_1
    · exact rtZ_0
  obtain ⟨k, hk, rfl⟩ := in04 hb
  unfold tqF
  simp only [f_X8_quake, ick_X, isQuake8 h, Option.bind_some, if_neg hqi, tsw, gr_C h.b1, cRef, getQ h hq, ckc_X, gI_X, h.q3 hq, a1, a5, a6, a7, hov]
  rcases (by omega : k = 0 ∨ k = 1 ∨ k = 2 ∨ k = 3 ∨ k = 4) with rfl | rfl | rfl | rfl | rfl
  · exact ⟨g, by rw [if_pos (by decide), if_pos (by decide)], Ch.rf _ _, h⟩
  · exact ⟨g2, by rw [if_neg (by decide), if_pos (by decide), if_neg (by decide), if_pos (by decide)], a2, a3⟩
  · exact ⟨g2, by rw [if_neg (by decide), if_neg (by decide), if_pos (by decide), if_neg (by decide), if_neg (by decide), if_pos (by decide)], a2, a3⟩
  · exact ⟨g2, by rw [if_neg (by decide), if_neg (by decide), if_neg (by decide), if_pos (by decide), if_neg (by decide), if_neg (by decide), if_neg (by decide), if_pos (by decide)], a2, a3⟩
  · refine ⟨g2, ?_, a2, a3⟩
    simp only [show (nI 4 = 0) = False from by simp; decide, show (nI 4 = 1) = False from by simp; decide, show (nI 4 = 2) = False from by simp; decide, show (nI 4 = 3) = False from by simp; decide, show (nI 4 = 4) = True from by simp; decide, if_true, if_false]
    by_cases e : nI (ncl V q 144) = 0
    · simp only [if_pos e]; rw [if_neg (by decide)]
    · simp only [if_neg e]; rw [if_pos trivial]
theorem ncl_mono {V : VV} {q : Nat} {a : Nat} : ∀ b, a ≤ b → ncl V q a ≤ ncl V q b
  | 0, h => by have : a = 0 := by omega
               subst this; exact Nat.le_refl _
  | b + 1, h => by
    by_cases e : a = b + 1
    · subst e; exact Nat.le_refl _
    · have := ncl_mono (V := V) (q := q) (a := a) b (by omega)
      conv => rhs; unfold ncl
      split <;> omega
theorem clS_no {V : VV} {q : Nat} {i : Int32} (hno : ∀ k, k < ncl V q 144 → nI k ≠ i) : ∀ m, m ≤ 144 → clS V q i m (ncl V q (144 - m)) = -9
  | 0, _ => rfl
  | m + 1, h => by
    unfold clS
    have e : ncl V q (144 - m) = if lo V q (143 - m) ≤ hi V q (143 - m) then ncl V q (143 - m) + 1 else ncl V q (143 - m) := by
      rw [show 144 - m = (143 - m) + 1 by omega]; rfl
    rw [show 144 - (m + 1) = 143 - m by omega]
    have ih := clS_no hno m (by omega)
    have hm := ncl_mono (V := V) (q := q) (a := 144 - m) 144 (by omega)
    by_cases hh : lo V q (143 - m) ≤ hi V q (143 - m)
    · rw [if_pos hh] at e ⊢
      rw [if_neg (hno _ (by omega)), ← e]; exact ih
    · rw [if_neg hh] at e ⊢
      rw [← e]; exact ih
end QUA
