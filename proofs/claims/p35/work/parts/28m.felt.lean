section FEL
variable {z : Nat}
theorem isOver8 (hz : 2000 ≤ z) {g : Hp} {V : VV} (h : IN g V) {q : Nat} (hq : q < nqk V) : ∃ g2, f_X8_isOver z (some (9, 0)) (nI q) g = some ((if ncl V q 144 = 0 then 1 else 0), g2) ∧ Ch [1, 21, 22] g g2 ∧ IN g2 V := by
  obtain ⟨g2, a1, a2, a3, a4, a5, a6, a7⟩ := heapOf8 hz h hq
  have hcl := ncl_le V q 144
  refine ⟨g2, ?_, a2, a3⟩
  simp only [f_X8_isOver, ick_X, a1, Option.bind_some, gI_X, a5]
  by_cases e : ncl V q 144 = 0
  · rw [e, if_pos (by decide), if_pos rfl]; exact rtZ_1
  · rw [if_neg (nI_ne0 (by omega) (by omega)), if_neg e]; exact rtZ_0
/-! arrivals -/
theorem cm_b {V : VV} (hV : VI V) {q t : Nat} (hq : q < nqk V) (ht : t < ntw V) : ∀ n, n ≤ 144 → -10000000 ≤ cmF V q t n ∧ cmF V q t n ≤ 1000000000 ∧ -1000000000 ≤ cxF V q t n ∧ cxF V q t n ≤ 20000000 ∧ (ncl V q n ≠ 0 → cmF V q t n ≤ 900000 ∧ -900000 ≤ cxF V q t n)
  | 0, _ => by simp [cmF, cxF, ncl]
  | n + 1, hn => by
    have ih := cm_b hV hq ht n (by omega)
    have hb := bd_lo hV hq n (by omega)
    have htv := TV_b hV.hv.sl.2 (c := n) (by omega) (hV.to ht).2
    have hl := loS_b hV.hv (q := q) (c := n) (by omega) (nst V) (Nat.le_refl _)
    have hh2 : -400 ≤ hi V q n := (hiP_b hV.hv (q := q) (c := n) (by omega) (npk V) (Nat.le_refl _)).1
    have hl2 : lo V q n ≤ 100000 := hl.2
    unfold cmF cxF ncl
    by_cases hh : lo V q n ≤ hi V q n
    · simp only [if_pos hh]; omega
    · simp only [if_neg hh]; exact ih
end FEL
