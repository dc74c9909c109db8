section FEL
variable {z : Nat}
/-! arrivals -/
theorem cm_b {V : VV} (hV : VI V) {q t : Nat} (hq : q < nqk V) (ht : t < ntw V) : ∀ n, n ≤ 144 → -10000000 ≤ cmF V q t n ∧ cmF V q t n ≤ 1000000000 ∧ -1000000000 ≤ cxF V q t n ∧ cxF V q t n ≤ 20000000 ∧ (ncl V q n ≠ 0 → cmF V q t n ≤ 900000 ∧ -900000 ≤ cxF V q t n)
  | 0, _ => by simp [cmF, cxF, ncl]
  | n + 1, hn => by
    have ih := cm_b hV hq ht n (by omega)
    have hb := bd_lo hV hq n (by omega)
    have htv := TV_b hV.hv.sl.2 (c := n) (by omega) (hV.to ht).2
    have hl := loS_b hV.hv (q := q) (c := n) (by omega) (nst V) (Nat.le_refl _)
    have hh2 : -400 ≤ hi V q n := (hiP_b hV.hv (q := q) (c := n) (by omega) (npk V) (Nat.le_refl _)).1
    have hl2 : lo V q n ≤ 100000 := hl.2
    unfold cmF cxF ncl
    by_cases hh : lo V q n ≤ hi V q n
    · simp only [if_pos hh]; omega
    · simp only [if_neg hh]; exact ih
end FEL
