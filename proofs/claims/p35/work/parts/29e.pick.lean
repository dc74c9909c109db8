/-! pick: joined, loose -/
theorem ap_kd {V : VV} {s t i : Nat} {c qv : Int32} (hi : i ≠ npk V) : kdF (apV V s t c qv) i = kdF V i := by
  unfold kdF
  rw [(ap_lt hi).2.2.2, ap_ev.1 51 (by decide) (by decide)]
theorem ap_c3 {V : VV} {s t i k : Nat} {c qv : Int32} (hp : npk V < 60) (hi : i < npk V) : cI (apV V s t c qv) (3, i) k = cI V (3, i) k := by
  obtain ⟨a1, a2, a3, a4⟩ := ap_lt (V := V) (s := s) (t := t) (c := c) (qv := qv) (show i ≠ npk V by omega)
  simp only [cI, ap_np hp, a1, a2, a3, a4, ap_kd (show i ≠ npk V by omega)]
  simp [hi, show i < npk V + 1 by omega]
theorem HC.ap {g : Hp} {V : VV} (h : HC g V) (hv : VI V) {s t : Nat} {c qv : Int32} (hp : npk V < 60) (hq : ∀ q, q < nqk V → qv ≠ nI q) : HC g (apV V s t c qv) := by
  rcases h with h | ⟨q, h1, h2, h3, h4, h5, h6⟩
  · exact Or.inl h
  · have hn := hq q h1
    have hl := ap_lwF (s := s) (t := t) (c := c) hp hn (hv.fp h1).1 144
    refine Or.inr ⟨q, by rw [ap_nq]; exact h1, h2, fun c hc => ?_, by rw [ap_ncl hp hn]; exact h4, by rw [hl.1]; exact h5, by rw [hl.2]; exact h6⟩
    rw [(ap_lo hp hn).1, (ap_lo hp hn).2]; exact h3 c hc
def jnG (g : Hp) (V : VV) (s t q : Nat) : Hp := setI (setI (setI g (26, q) s (nI t)) (4, q) 3 (nI (cntF V q (npk V) + 1))) (1, 0) 5 (-9)
theorem jn_ch {g : Hp} {V : VV} {s t q : Nat} : Ch [1, 4, 26] g (jnG g V s t q) := ((Ch.set (by simp)).tr (Ch.set (by simp))).tr (Ch.set (by simp))
section JNG
variable {z : Nat}
end JNG
